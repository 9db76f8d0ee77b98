/-! blocks, printed by wip/whole/mkblocks.py -/
/-! 51: WornSums$Sheet.rowOf(II)LWornSums$Row; -/
theorem c51 (X : smX) (x0 : Nat) (x1 : Int32) (x2 : Int32) (h : smH) : sm_C PP X 51 [.ref x0, .int x1, .int x2] h = sm_E PP X 51 0 [(0, .ref x0), (1, .int x1), (2, .int x2)] [] h := rfl
set_option maxRecDepth 4000 in
theorem b51_0 (X : smX) (x0 : Nat) (x1 : Int32) (x2 : Int32) (h : smH) : sm_E PP X 51 0 [(0, .ref x0), (1, .int x1), (2, .int x2)] [] h =
    sm_vc h x0 5 (sm_cR (sm_C PP X 48 [.ref x0, .int x1] h) fun w1 h2 => sm_E PP X 51 5 [(0, .ref x0), (1, .int x1), (2, .int x2)] (w1.toList ++ []) h2) :=
  (sm_blk PP X 51 [0, 5, 17, 38] 25 0 _ _ _).trans rfl
set_option maxRecDepth 4000 in
theorem b51_5 (X : smX) (x0 : Nat) (x1 : Int32) (x2 : Int32) (s0 : Int32) (h : smH) : sm_E PP X 51 5 [(0, .ref x0), (1, .int x1), (2, .int x2)] [.int s0] h =
    if s0 = 0 then (sm_E PP X 51 17 [] [] h) else if x2 < 0 then (sm_E PP X 51 17 [] [] h) else if x2 ≤ (nI 1) then (if x2 = 0 then (sm_gR (sm_f h x0 5 0) fun v1 => sm_ldR (sm_ar PP X h (.ref v1)) x1 fun v2 => sm_E PP X 51 38 [] [.ref v2] h) else sm_gR (sm_f h x0 5 1) fun v3 => sm_ldR (sm_ar PP X h (.ref v3)) x1 fun v4 => sm_E PP X 51 38 [] [.ref v4] h) else sm_E PP X 51 17 [] [] h :=
  (sm_blk PP X 51 [0, 5, 17, 38] 25 5 _ _ _).trans rfl
set_option maxRecDepth 4000 in
theorem b51_17 (X : smX) (h : smH) : sm_E PP X 51 17 [] [] h =
    some (some (.null), h) :=
  (sm_blk PP X 51 [0, 5, 17, 38] 25 17 _ _ _).trans rfl
set_option maxRecDepth 4000 in
theorem b51_38 (X : smX) (s0 : Nat) (h : smH) : sm_E PP X 51 38 [] [.ref s0] h =
    some (some (.ref s0), h) :=
  (sm_blk PP X 51 [0, 5, 17, 38] 25 38 _ _ _).trans rfl
/-! 52: WornSums.wears(III)I -/
theorem c52 (X : smX) (x0 : Nat) (x1 : Int32) (x2 : Int32) (x3 : Int32) (h : smH) : sm_C PP X 52 [.ref x0, .int x1, .int x2, .int x3] h = sm_E PP X 52 0 [(0, .ref x0), (1, .int x1), (2, .int x2), (3, .int x3)] [] h := rfl
set_option maxRecDepth 4000 in
theorem b52_0 (X : smX) (x0 : Nat) (x1 : Int32) (x2 : Int32) (x3 : Int32) (h : smH) : sm_E PP X 52 0 [(0, .ref x0), (1, .int x1), (2, .int x2), (3, .int x3)] [] h =
    sm_gR (sm_f h x0 7 1) fun v1 => sm_vc h v1 5 (sm_cR (sm_C PP X 51 [.ref v1, .int x1, .int x2] h) fun w2 h3 => sm_E PP X 52 9 [(0, .ref x0), (3, .int x3)] (w2.toList ++ []) h3) :=
  (sm_blk PP X 52 [0, 9, 22, 25, 33, 49, 56, 64] 36 0 _ _ _).trans rfl
set_option maxRecDepth 4000 in
theorem b52_9 (X : smX) (x0 : Nat) (x3 : Int32) (s0 : Nat) (h : smH) : sm_E PP X 52 9 [(0, .ref x0), (3, .int x3)] [.ref s0] h =
    sm_vc h s0 4 (sm_cR (sm_C PP X 36 [.ref s0, .int x3] h) fun w1 h2 => sm_E PP X 52 22 [(0, .ref x0), (3, .int x3), (4, .ref s0)] (w1.toList ++ []) h2) :=
  (sm_blk PP X 52 [0, 9, 22, 25, 33, 49, 56, 64] 36 9 _ _ _).trans rfl
set_option maxRecDepth 4000 in
theorem b52_9_1 (X : smX) (x0 : Nat) (x3 : Int32) (h : smH) : sm_E PP X 52 9 [(0, .ref x0), (3, .int x3)] [.null] h =
    sm_E PP X 52 25 [] [] h :=
  (sm_blk PP X 52 [0, 9, 22, 25, 33, 49, 56, 64] 36 9 _ _ _).trans rfl
set_option maxRecDepth 4000 in
theorem b52_22 (X : smX) (x0 : Nat) (x3 : Int32) (x4 : Nat) (s0 : Int32) (h : smH) : sm_E PP X 52 22 [(0, .ref x0), (3, .int x3), (4, .ref x4)] [.int s0] h =
    if s0 = 0 then (sm_E PP X 52 25 [] [] h) else sm_vc h x4 4 (sm_cR (sm_C PP X 37 [.ref x4, .int x3] h) fun w1 h2 => sm_E PP X 52 33 [(0, .ref x0), (3, .int x3), (4, .ref x4)] (w1.toList ++ []) h2) :=
  (sm_blk PP X 52 [0, 9, 22, 25, 33, 49, 56, 64] 36 22 _ _ _).trans rfl
set_option maxRecDepth 4000 in
theorem b52_25 (X : smX) (h : smH) : sm_E PP X 52 25 [] [] h =
    some (some (.int (-nI 1)), h) :=
  (sm_blk PP X 52 [0, 9, 22, 25, 33, 49, 56, 64] 36 25 _ _ _).trans rfl
set_option maxRecDepth 4000 in
theorem b52_33 (X : smX) (x0 : Nat) (x3 : Int32) (x4 : Nat) (s0 : Int32) (h : smH) : sm_E PP X 52 33 [(0, .ref x0), (3, .int x3), (4, .ref x4)] [.int s0] h =
    if s0 = (nI 63) then (sm_E PP X 52 49 [] [] h) else if s0 = (nI 32) then (sm_E PP X 52 49 [] [] h) else sm_vc h x0 7 (sm_cR (sm_C PP X 43 [.ref x0] h) fun w1 h2 => sm_E PP X 52 56 [(3, .int x3), (4, .ref x4), (5, .int s0)] (w1.toList ++ []) h2) :=
  (sm_blk PP X 52 [0, 9, 22, 25, 33, 49, 56, 64] 36 33 _ _ _).trans rfl
set_option maxRecDepth 4000 in
theorem b52_49 (X : smX) (h : smH) : sm_E PP X 52 49 [] [] h =
    some (some (.int (-nI 2)), h) :=
  (sm_blk PP X 52 [0, 9, 22, 25, 33, 49, 56, 64] 36 49 _ _ _).trans rfl
set_option maxRecDepth 4000 in
theorem b52_56 (X : smX) (x3 : Int32) (x4 : Nat) (x5 : Int32) (h : smH) : sm_E PP X 52 56 [(3, .int x3), (4, .ref x4), (5, .int x5)] [] h =
    sm_vc h x4 4 (sm_cR (sm_C PP X 38 [.ref x4, .int x3, .int (nI 63)] h) fun w1 h2 => sm_E PP X 52 64 [(5, .int x5)] (w1.toList ++ []) h2) :=
  (sm_blk PP X 52 [0, 9, 22, 25, 33, 49, 56, 64] 36 56 _ _ _).trans rfl
set_option maxRecDepth 4000 in
theorem b52_64 (X : smX) (x5 : Int32) (h : smH) : sm_E PP X 52 64 [(5, .int x5)] [] h =
    some (some (.int x5), h) :=
  (sm_blk PP X 52 [0, 9, 22, 25, 33, 49, 56, 64] 36 64 _ _ _).trans rfl
/-! 53: WornSums.canBeMadeOut(II)Z -/
theorem c53 (X : smX) (x0 : Int32) (x1 : Int32) (h : smH) : sm_C PP X 53 [.int x0, .int x1] h = sm_E PP X 53 0 [(0, .int x0), (1, .int x1)] [] h := rfl
set_option maxRecDepth 4000 in
theorem b53_0 (X : smX) (x0 : Int32) (x1 : Int32) (h : smH) : sm_E PP X 53 0 [(0, .int x0), (1, .int x1)] [] h =
    if x0 = 0 then (sm_cR (sm_C PP X 31 [.int x1] h) fun w1 h2 => sm_E PP X 53 8 [] (w1.toList ++ []) h2) else sm_cR (sm_C PP X 33 [.int x1] h) fun w3 h4 => sm_E PP X 53 15 [] (w3.toList ++ []) h4 :=
  (sm_blk PP X 53 [0, 8, 15] 10 0 _ _ _).trans rfl
set_option maxRecDepth 4000 in
theorem b53_8 (X : smX) (s0 : Int32) (h : smH) : sm_E PP X 53 8 [] [.int s0] h =
    sm_E PP X 53 15 [] [.int s0] h :=
  (sm_blk PP X 53 [0, 8, 15] 10 8 _ _ _).trans rfl
set_option maxRecDepth 4000 in
theorem b53_15 (X : smX) (s0 : Int32) (h : smH) : sm_E PP X 53 15 [] [.int s0] h =
    if narrow (sm_nk 1) (.int s0) = .int s0 then some (some (.int s0), h) else none :=
  (sm_blk PP X 53 [0, 8, 15] 10 15 _ _ _).trans rfl
/-! 54: WornSums$Row.worn()I -/
theorem c54 (X : smX) (x0 : Nat) (h : smH) : sm_C PP X 54 [.ref x0] h = sm_E PP X 54 0 [(0, .ref x0)] [] h := rfl
set_option maxRecDepth 4000 in
theorem b54_0 (X : smX) (x0 : Nat) (h : smH) : sm_E PP X 54 0 [(0, .ref x0)] [] h =
    sm_E PP X 54 4 [(0, .ref x0), (1, .int (nI 0)), (2, .int (nI 0))] [] h :=
  (sm_blk PP X 54 [0, 4, 17, 25] 20 0 _ _ _).trans rfl
set_option maxRecDepth 4000 in
theorem b54_4 (X : smX) (x0 : Nat) (x1 : Int32) (x2 : Int32) (h : smH) : sm_E PP X 54 4 [(0, .ref x0), (1, .int x1), (2, .int x2)] [] h =
    sm_gI (sm_f h x0 4 1) fun v1 => if v1 ≤ x2 then (some (some (.int x1), h)) else sm_vc h x0 4 (sm_cR (sm_C PP X 37 [.ref x0, .int x2] h) fun w2 h3 => sm_E PP X 54 17 [(0, .ref x0), (1, .int x1), (2, .int x2)] (w2.toList ++ []) h3) :=
  (sm_blk PP X 54 [0, 4, 17, 25] 20 4 _ _ _).trans rfl
set_option maxRecDepth 4000 in
theorem b54_17 (X : smX) (x0 : Nat) (x1 : Int32) (x2 : Int32) (s0 : Int32) (h : smH) : sm_E PP X 54 17 [(0, .ref x0), (1, .int x1), (2, .int x2)] [.int s0] h =
    if s0 = (nI 63) then (sm_E PP X 54 25 [(0, .ref x0), (1, .int (x1 + (nI 1))), (2, .int x2)] [] h) else sm_E PP X 54 25 [(0, .ref x0), (1, .int x1), (2, .int x2)] [] h :=
  (sm_blk PP X 54 [0, 4, 17, 25] 20 17 _ _ _).trans rfl
set_option maxRecDepth 4000 in
theorem b54_25 (X : smX) (x0 : Nat) (x1 : Int32) (x2 : Int32) (h : smH) : sm_E PP X 54 25 [(0, .ref x0), (1, .int x1), (2, .int x2)] [] h =
    sm_E PP X 54 4 [(0, .ref x0), (1, .int x1), (2, .int (x2 + (nI 1)))] [] h :=
  (sm_blk PP X 54 [0, 4, 17, 25] 20 25 _ _ _).trans rfl
/-! 55: WornSums$Sheet.wornIn(I)I -/
theorem c55 (X : smX) (x0 : Nat) (x1 : Int32) (h : smH) : sm_C PP X 55 [.ref x0, .int x1] h = sm_E PP X 55 0 [(0, .ref x0), (1, .int x1)] [] h := rfl
set_option maxRecDepth 4000 in
theorem b55_0 (X : smX) (x0 : Nat) (x1 : Int32) (h : smH) : sm_E PP X 55 0 [(0, .ref x0), (1, .int x1)] [] h =
    sm_vc h x0 5 (sm_cR (sm_C PP X 48 [.ref x0, .int x1] h) fun w1 h2 => sm_E PP X 55 5 [(0, .ref x0), (1, .int x1)] (w1.toList ++ []) h2) :=
  (sm_blk PP X 55 [0, 5, 17, 26, 31] 20 0 _ _ _).trans rfl
set_option maxRecDepth 4000 in
theorem b55_5 (X : smX) (x0 : Nat) (x1 : Int32) (s0 : Int32) (h : smH) : sm_E PP X 55 5 [(0, .ref x0), (1, .int x1)] [.int s0] h =
    if s0 = 0 then (sm_E PP X 55 31 [] [.int (nI 0)] h) else sm_gR (sm_f h x0 5 0) fun v1 => sm_ldR (sm_ar PP X h (.ref v1)) x1 fun v2 => sm_vc h v2 4 (sm_cR (sm_C PP X 54 [.ref v2] h) fun w3 h4 => sm_E PP X 55 17 [(0, .ref x0), (1, .int x1)] (w3.toList ++ []) h4) :=
  (sm_blk PP X 55 [0, 5, 17, 26, 31] 20 5 _ _ _).trans rfl
set_option maxRecDepth 4000 in
theorem b55_31 (X : smX) (s0 : Int32) (h : smH) : sm_E PP X 55 31 [] [.int s0] h =
    some (some (.int s0), h) :=
  (sm_blk PP X 55 [0, 5, 17, 26, 31] 20 31 _ _ _).trans rfl
set_option maxRecDepth 4000 in
theorem b55_17 (X : smX) (x0 : Nat) (x1 : Int32) (s0 : Int32) (h : smH) : sm_E PP X 55 17 [(0, .ref x0), (1, .int x1)] [.int s0] h =
    sm_gR (sm_f h x0 5 1) fun v1 => sm_ldR (sm_ar PP X h (.ref v1)) x1 fun v2 => sm_vc h v2 4 (sm_cR (sm_C PP X 54 [.ref v2] h) fun w3 h4 => sm_E PP X 55 26 [] (w3.toList ++ [.int s0]) h4) :=
  (sm_blk PP X 55 [0, 5, 17, 26, 31] 20 17 _ _ _).trans rfl
set_option maxRecDepth 4000 in
theorem b55_26 (X : smX) (s0 : Int32) (s1 : Int32) (h : smH) : sm_E PP X 55 26 [] [.int s0, .int s1] h =
    sm_E PP X 55 31 [] [.int (s1 + s0)] h :=
  (sm_blk PP X 55 [0, 5, 17, 26, 31] 20 26 _ _ _).trans rfl
/-! 56: WornSums.makes(IIII)I -/
theorem c56 (X : smX) (x0 : Nat) (x1 : Int32) (x2 : Int32) (x3 : Int32) (x4 : Int32) (h : smH) : sm_C PP X 56 [.ref x0, .int x1, .int x2, .int x3, .int x4] h = sm_E PP X 56 0 [(0, .ref x0), (1, .int x1), (2, .int x2), (3, .int x3), (4, .int x4)] [] h := rfl
set_option maxRecDepth 4000 in
theorem b56_0 (X : smX) (x0 : Nat) (x1 : Int32) (x2 : Int32) (x3 : Int32) (x4 : Int32) (h : smH) : sm_E PP X 56 0 [(0, .ref x0), (1, .int x1), (2, .int x2), (3, .int x3), (4, .int x4)] [] h =
    sm_gR (sm_f h x0 7 1) fun v1 => sm_vc h v1 5 (sm_cR (sm_C PP X 51 [.ref v1, .int x1, .int x2] h) fun w2 h3 => sm_E PP X 56 9 [(0, .ref x0), (1, .int x1), (2, .int x2), (3, .int x3), (4, .int x4)] (w2.toList ++ []) h3) :=
  (sm_blk PP X 56 [0, 9, 22, 31, 34, 42, 54, 63, 71] 39 0 _ _ _).trans rfl
set_option maxRecDepth 4000 in
theorem b56_9 (X : smX) (x0 : Nat) (x1 : Int32) (x2 : Int32) (x3 : Int32) (x4 : Int32) (s0 : Nat) (h : smH) : sm_E PP X 56 9 [(0, .ref x0), (1, .int x1), (2, .int x2), (3, .int x3), (4, .int x4)] [.ref s0] h =
    sm_vc h s0 4 (sm_cR (sm_C PP X 36 [.ref s0, .int x3] h) fun w1 h2 => sm_E PP X 56 22 [(0, .ref x0), (1, .int x1), (2, .int x2), (3, .int x3), (4, .int x4), (5, .ref s0)] (w1.toList ++ []) h2) :=
  (sm_blk PP X 56 [0, 9, 22, 31, 34, 42, 54, 63, 71] 39 9 _ _ _).trans rfl
set_option maxRecDepth 4000 in
theorem b56_9_1 (X : smX) (x0 : Nat) (x1 : Int32) (x2 : Int32) (x3 : Int32) (x4 : Int32) (h : smH) : sm_E PP X 56 9 [(0, .ref x0), (1, .int x1), (2, .int x2), (3, .int x3), (4, .int x4)] [.null] h =
    sm_E PP X 56 34 [] [] h :=
  (sm_blk PP X 56 [0, 9, 22, 31, 34, 42, 54, 63, 71] 39 9 _ _ _).trans rfl
set_option maxRecDepth 4000 in
theorem b56_22 (X : smX) (x0 : Nat) (x1 : Int32) (x2 : Int32) (x3 : Int32) (x4 : Int32) (x5 : Nat) (s0 : Int32) (h : smH) : sm_E PP X 56 22 [(0, .ref x0), (1, .int x1), (2, .int x2), (3, .int x3), (4, .int x4), (5, .ref x5)] [.int s0] h =
    if s0 = 0 then (sm_E PP X 56 34 [] [] h) else sm_cR (sm_C PP X 53 [.int x2, .int x4] h) fun w1 h2 => sm_E PP X 56 31 [(0, .ref x0), (1, .int x1), (3, .int x3), (4, .int x4), (5, .ref x5)] (w1.toList ++ []) h2 :=
  (sm_blk PP X 56 [0, 9, 22, 31, 34, 42, 54, 63, 71] 39 22 _ _ _).trans rfl
set_option maxRecDepth 4000 in
theorem b56_34 (X : smX) (h : smH) : sm_E PP X 56 34 [] [] h =
    some (some (.int (-nI 1)), h) :=
  (sm_blk PP X 56 [0, 9, 22, 31, 34, 42, 54, 63, 71] 39 34 _ _ _).trans rfl
set_option maxRecDepth 4000 in
theorem b56_31 (X : smX) (x0 : Nat) (x1 : Int32) (x3 : Int32) (x4 : Int32) (x5 : Nat) (s0 : Int32) (h : smH) : sm_E PP X 56 31 [(0, .ref x0), (1, .int x1), (3, .int x3), (4, .int x4), (5, .ref x5)] [.int s0] h =
    if s0 = 0 then (sm_E PP X 56 34 [] [] h) else sm_vc h x5 4 (sm_cR (sm_C PP X 37 [.ref x5, .int x3] h) fun w1 h2 => sm_E PP X 56 42 [(0, .ref x0), (1, .int x1), (3, .int x3), (4, .int x4), (5, .ref x5)] (w1.toList ++ []) h2) :=
  (sm_blk PP X 56 [0, 9, 22, 31, 34, 42, 54, 63, 71] 39 31 _ _ _).trans rfl
set_option maxRecDepth 4000 in
theorem b56_42 (X : smX) (x0 : Nat) (x1 : Int32) (x3 : Int32) (x4 : Int32) (x5 : Nat) (s0 : Int32) (h : smH) : sm_E PP X 56 42 [(0, .ref x0), (1, .int x1), (3, .int x3), (4, .int x4), (5, .ref x5)] [.int s0] h =
    if s0 = (nI 63) then (sm_vc h x0 7 (sm_cR (sm_C PP X 43 [.ref x0] h) fun w1 h2 => sm_E PP X 56 54 [(0, .ref x0), (1, .int x1), (3, .int x3), (4, .int x4), (5, .ref x5)] (w1.toList ++ []) h2)) else some (some (.int (-nI 2)), h) :=
  (sm_blk PP X 56 [0, 9, 22, 31, 34, 42, 54, 63, 71] 39 42 _ _ _).trans rfl
set_option maxRecDepth 4000 in
theorem b56_54 (X : smX) (x0 : Nat) (x1 : Int32) (x3 : Int32) (x4 : Int32) (x5 : Nat) (h : smH) : sm_E PP X 56 54 [(0, .ref x0), (1, .int x1), (3, .int x3), (4, .int x4), (5, .ref x5)] [] h =
    sm_vc h x5 4 (sm_cR (sm_C PP X 38 [.ref x5, .int x3, .int ((x4.toUInt32 % 65536).toInt32)] h) fun w1 h2 => sm_E PP X 56 63 [(0, .ref x0), (1, .int x1)] (w1.toList ++ []) h2) :=
  (sm_blk PP X 56 [0, 9, 22, 31, 34, 42, 54, 63, 71] 39 54 _ _ _).trans rfl
set_option maxRecDepth 4000 in
theorem b56_63 (X : smX) (x0 : Nat) (x1 : Int32) (h : smH) : sm_E PP X 56 63 [(0, .ref x0), (1, .int x1)] [] h =
    sm_gR (sm_f h x0 7 1) fun v1 => sm_vc h v1 5 (sm_cR (sm_C PP X 55 [.ref v1, .int x1] h) fun w2 h3 => sm_E PP X 56 71 [] (w2.toList ++ []) h3) :=
  (sm_blk PP X 56 [0, 9, 22, 31, 34, 42, 54, 63, 71] 39 63 _ _ _).trans rfl
set_option maxRecDepth 4000 in
theorem b56_71 (X : smX) (s0 : Int32) (h : smH) : sm_E PP X 56 71 [] [.int s0] h =
    some (some (.int s0), h) :=
  (sm_blk PP X 56 [0, 9, 22, 31, 34, 42, 54, 63, 71] 39 71 _ _ _).trans rfl
/-! 57: WornSums.slacks(I)I -/
theorem c57 (X : smX) (x0 : Nat) (x1 : Int32) (h : smH) : sm_C PP X 57 [.ref x0, .int x1] h = sm_E PP X 57 0 [(0, .ref x0), (1, .int x1)] [] h := rfl
set_option maxRecDepth 4000 in
theorem b57_0 (X : smX) (x0 : Nat) (x1 : Int32) (h : smH) : sm_E PP X 57 0 [(0, .ref x0), (1, .int x1)] [] h =
    if x1 < 0 then (sm_E PP X 57 9 [] [] h) else if x1 ≤ (nI 2) then (sm_gR (sm_f h x0 7 1) fun v1 => sm_gI (sm_f h v1 5 3) fun v2 => if x1 = v2 then (some (some (.int (-nI 2)), h)) else sm_vc h x0 7 (sm_cR (sm_C PP X 43 [.ref x0] h) fun w3 h4 => sm_E PP X 57 31 [(0, .ref x0), (1, .int x1), (2, .int v2)] (w3.toList ++ []) h4)) else sm_E PP X 57 9 [] [] h :=
  (sm_blk PP X 57 [0, 9, 31] 26 0 _ _ _).trans rfl
set_option maxRecDepth 4000 in
theorem b57_9 (X : smX) (h : smH) : sm_E PP X 57 9 [] [] h =
    some (some (.int (-nI 1)), h) :=
  (sm_blk PP X 57 [0, 9, 31] 26 9 _ _ _).trans rfl
set_option maxRecDepth 4000 in
theorem b57_31 (X : smX) (x0 : Nat) (x1 : Int32) (x2 : Int32) (h : smH) : sm_E PP X 57 31 [(0, .ref x0), (1, .int x1), (2, .int x2)] [] h =
    sm_gR (sm_f h x0 7 1) fun v1 => sm_fP h v1 5 3 (.int x1) fun h2 => some (some (.int x2), h2) :=
  (sm_blk PP X 57 [0, 9, 31] 26 31 _ _ _).trans rfl
/-! 58: WornSums.totals(I)I -/
theorem c58 (X : smX) (x0 : Nat) (x1 : Int32) (h : smH) : sm_C PP X 58 [.ref x0, .int x1] h = sm_E PP X 58 0 [(0, .ref x0), (1, .int x1)] [] h := rfl
set_option maxRecDepth 4000 in
theorem b58_0 (X : smX) (x0 : Nat) (x1 : Int32) (h : smH) : sm_E PP X 58 0 [(0, .ref x0), (1, .int x1)] [] h =
    if x1 = (-nI 9) then (sm_E PP X 58 19 [(0, .ref x0), (1, .int x1)] [] h) else if x1 < 0 then (sm_E PP X 58 17 [] [] h) else if x1 ≤ (nI 9999) then (sm_E PP X 58 19 [(0, .ref x0), (1, .int x1)] [] h) else sm_E PP X 58 17 [] [] h :=
  (sm_blk PP X 58 [0, 17, 19, 39] 29 0 _ _ _).trans rfl
set_option maxRecDepth 4000 in
theorem b58_19 (X : smX) (x0 : Nat) (x1 : Int32) (h : smH) : sm_E PP X 58 19 [(0, .ref x0), (1, .int x1)] [] h =
    sm_gR (sm_f h x0 7 1) fun v1 => sm_gI (sm_f h v1 5 4) fun v2 => if x1 = v2 then (some (some (.int (-nI 2)), h)) else sm_vc h x0 7 (sm_cR (sm_C PP X 43 [.ref x0] h) fun w3 h4 => sm_E PP X 58 39 [(0, .ref x0), (1, .int x1), (2, .int v2)] (w3.toList ++ []) h4) :=
  (sm_blk PP X 58 [0, 17, 19, 39] 29 19 _ _ _).trans rfl
set_option maxRecDepth 4000 in
theorem b58_17 (X : smX) (h : smH) : sm_E PP X 58 17 [] [] h =
    some (some (.int (-nI 1)), h) :=
  (sm_blk PP X 58 [0, 17, 19, 39] 29 17 _ _ _).trans rfl
set_option maxRecDepth 4000 in
theorem b58_39 (X : smX) (x0 : Nat) (x1 : Int32) (x2 : Int32) (h : smH) : sm_E PP X 58 39 [(0, .ref x0), (1, .int x1), (2, .int x2)] [] h =
    sm_gR (sm_f h x0 7 1) fun v1 => sm_fP h v1 5 4 (.int x1) fun h2 => some (some (.int x2), h2) :=
  (sm_blk PP X 58 [0, 17, 19, 39] 29 39 _ _ _).trans rfl
/-! 59: WornSums$History.takeBack(LWornSums$Sheet;)V -/
theorem c59 (X : smX) (x0 : Nat) (x1 : Nat) (h : smH) : sm_C PP X 59 [.ref x0, .ref x1] h = sm_E PP X 59 0 [(0, .ref x0), (1, .ref x1)] [] h := rfl
set_option maxRecDepth 4000 in
theorem b59_0 (X : smX) (x0 : Nat) (x1 : Nat) (h : smH) : sm_E PP X 59 0 [(0, .ref x0), (1, .ref x1)] [] h =
    sm_gI (sm_f h x0 2 2) fun v1 => if v1 = 0 then (some (none, h)) else sm_gI (sm_f h x0 2 1) fun v2 => sm_cR (sm_C PP X 92 [.int (v2 - (nI 1))] h) fun w3 h4 => sm_E PP X 59 18 [(0, .ref x0), (1, .ref x1)] (w3.toList ++ [.ref x0]) h4 :=
  (sm_blk PP X 59 [0, 18, 34] 27 0 _ _ _).trans rfl
set_option maxRecDepth 4000 in
theorem b59_18 (X : smX) (x0 : Nat) (x1 : Nat) (s0 : Int32) (s1 : Nat) (h : smH) : sm_E PP X 59 18 [(0, .ref x0), (1, .ref x1)] [.int s0, .ref s1] h =
    sm_fP h s1 2 1 (.int s0) fun h1 => sm_gR (sm_f h1 x0 2 0) fun v2 => sm_gI (sm_f h1 x0 2 1) fun v3 => sm_ldR (sm_ar PP X h1 (.ref v2)) v3 fun v4 => sm_vc h1 x1 5 (sm_cR (sm_C PP X 40 [.ref x1, .ref v4] h1) fun w5 h6 => sm_E PP X 59 34 [(0, .ref x0)] (w5.toList ++ []) h6) :=
  (sm_blk PP X 59 [0, 18, 34] 27 18 _ _ _).trans rfl
set_option maxRecDepth 4000 in
theorem b59_34 (X : smX) (x0 : Nat) (h : smH) : sm_E PP X 59 34 [(0, .ref x0)] [] h =
    sm_gI (sm_f h x0 2 2) fun v1 => sm_fP h x0 2 2 (.int (v1 - (nI 1))) fun h2 => some (none, h2) :=
  (sm_blk PP X 59 [0, 18, 34] 27 34 _ _ _).trans rfl
/-! 60: WornSums.undo()I -/
theorem c60 (X : smX) (x0 : Nat) (h : smH) : sm_C PP X 60 [.ref x0] h = sm_E PP X 60 0 [(0, .ref x0)] [] h := rfl
set_option maxRecDepth 4000 in
theorem b60_0 (X : smX) (x0 : Nat) (h : smH) : sm_E PP X 60 0 [(0, .ref x0)] [] h =
    sm_gR (sm_f h x0 7 2) fun v1 => sm_gI (sm_f h v1 2 2) fun v2 => if v2 = 0 then (some (some (.int (-nI 2)), h)) else sm_gR (sm_f h x0 7 2) fun v3 => sm_gR (sm_f h x0 7 1) fun v4 => sm_vc h v3 2 (sm_cR (sm_C PP X 59 [.ref v3, .ref v4] h) fun w5 h6 => sm_E PP X 60 24 [(0, .ref x0)] (w5.toList ++ []) h6) :=
  (sm_blk PP X 60 [0, 24, 31] 20 0 _ _ _).trans rfl
set_option maxRecDepth 4000 in
theorem b60_24 (X : smX) (x0 : Nat) (h : smH) : sm_E PP X 60 24 [(0, .ref x0)] [] h =
    sm_gR (sm_f h x0 7 6) fun v1 => sm_vc h v1 1 (sm_cR (sm_C PP X 42 [.ref v1] h) fun w2 h3 => sm_E PP X 60 31 [(0, .ref x0)] (w2.toList ++ []) h3) :=
  (sm_blk PP X 60 [0, 24, 31] 20 24 _ _ _).trans rfl
set_option maxRecDepth 4000 in
theorem b60_31 (X : smX) (x0 : Nat) (h : smH) : sm_E PP X 60 31 [(0, .ref x0)] [] h =
    sm_gR (sm_f h x0 7 2) fun v1 => sm_gI (sm_f h v1 2 2) fun v2 => some (some (.int v2), h) :=
  (sm_blk PP X 60 [0, 24, 31] 20 31 _ _ _).trans rfl
/-! 61: WornSums$Sheet.lengthOf(II)I -/
theorem c61 (X : smX) (x0 : Nat) (x1 : Int32) (x2 : Int32) (h : smH) : sm_C PP X 61 [.ref x0, .int x1, .int x2] h = sm_E PP X 61 0 [(0, .ref x0), (1, .int x1), (2, .int x2)] [] h := rfl
set_option maxRecDepth 4000 in
theorem b61_0 (X : smX) (x0 : Nat) (x1 : Int32) (x2 : Int32) (h : smH) : sm_E PP X 61 0 [(0, .ref x0), (1, .int x1), (2, .int x2)] [] h =
    sm_vc h x0 5 (sm_cR (sm_C PP X 51 [.ref x0, .int x1, .int x2] h) fun w1 h2 => sm_E PP X 61 6 [] (w1.toList ++ []) h2) :=
  (sm_blk PP X 61 [0, 6, 19] 14 0 _ _ _).trans rfl
set_option maxRecDepth 4000 in
theorem b61_6 (X : smX) (s0 : Nat) (h : smH) : sm_E PP X 61 6 [] [.ref s0] h =
    sm_gI (sm_f h s0 4 1) fun v1 => sm_E PP X 61 19 [] [.int v1] h :=
  (sm_blk PP X 61 [0, 6, 19] 14 6 _ _ _).trans rfl
set_option maxRecDepth 4000 in
theorem b61_6_1 (X : smX) (h : smH) : sm_E PP X 61 6 [] [.null] h =
    sm_E PP X 61 19 [] [.int (nI 0)] h :=
  (sm_blk PP X 61 [0, 6, 19] 14 6 _ _ _).trans rfl
set_option maxRecDepth 4000 in
theorem b61_19 (X : smX) (s0 : Int32) (h : smH) : sm_E PP X 61 19 [] [.int s0] h =
    some (some (.int s0), h) :=
  (sm_blk PP X 61 [0, 6, 19] 14 19 _ _ _).trans rfl
/-! 62: WornSums$NumberWords.doubtOf(LWornSums$Row;II)I -/
theorem c62 (X : smX) (x0 : Nat) (x1 : Nat) (x2 : Int32) (x3 : Int32) (h : smH) : sm_C PP X 62 [.ref x0, .ref x1, .int x2, .int x3] h = sm_E PP X 62 0 [(0, .ref x0), (1, .ref x1), (2, .int x2), (3, .int x3)] [] h := rfl
set_option maxRecDepth 4000 in
theorem b62_0 (X : smX) (x0 : Nat) (x1 : Nat) (x2 : Int32) (x3 : Int32) (h : smH) : sm_E PP X 62 0 [(0, .ref x0), (1, .ref x1), (2, .int x2), (3, .int x3)] [] h =
    sm_gI (sm_f h x1 4 1) fun v1 => sm_vc h x0 3 (sm_cR (sm_C PP X 16 [.ref x0, .int x3] h) fun w2 h3 => sm_E PP X 62 9 [(0, .ref x0), (1, .ref x1), (2, .int x2), (3, .int x3)] (w2.toList ++ [.int v1]) h3) :=
  (sm_blk PP X 62 [0, 9, 24, 39, 48, 62, 74, 106, 125] 63 0 _ _ _).trans rfl
set_option maxRecDepth 4000 in
theorem b62_9 (X : smX) (x0 : Nat) (x1 : Nat) (x2 : Int32) (x3 : Int32) (s0 : Int32) (s1 : Int32) (h : smH) : sm_E PP X 62 9 [(0, .ref x0), (1, .ref x1), (2, .int x2), (3, .int x3)] [.int s0, .int s1] h =
    if s1 = s0 then (sm_E PP X 62 24 [(0, .ref x0), (1, .ref x1), (2, .int x2), (3, .int x3), (4, .int (nI 0)), (5, .int (nI 0)), (6, .int (nI 0))] [] h) else some (some (.int (-nI 9)), h) :=
  (sm_blk PP X 62 [0, 9, 24, 39, 48, 62, 74, 106, 125] 63 9 _ _ _).trans rfl
set_option maxRecDepth 4000 in
theorem b62_24 (X : smX) (x0 : Nat) (x1 : Nat) (x2 : Int32) (x3 : Int32) (x4 : Int32) (x5 : Int32) (x6 : Int32) (h : smH) : sm_E PP X 62 24 [(0, .ref x0), (1, .ref x1), (2, .int x2), (3, .int x3), (4, .int x4), (5, .int x5), (6, .int x6)] [] h =
    sm_gI (sm_f h x1 4 1) fun v1 => if v1 ≤ x6 then (if x2 < x5 then (sm_E PP X 62 125 [] [.int (-nI 9)] h) else sm_E PP X 62 125 [] [.int x4] h) else sm_vc h x1 4 (sm_cR (sm_C PP X 37 [.ref x1, .int x6] h) fun w2 h3 => sm_E PP X 62 39 [(0, .ref x0), (1, .ref x1), (2, .int x2), (3, .int x3), (4, .int x4), (5, .int x5), (6, .int x6)] (w2.toList ++ []) h3) :=
  (sm_blk PP X 62 [0, 9, 24, 39, 48, 62, 74, 106, 125] 63 24 _ _ _).trans rfl
set_option maxRecDepth 4000 in
theorem b62_125 (X : smX) (s0 : Int32) (h : smH) : sm_E PP X 62 125 [] [.int s0] h =
    some (some (.int s0), h) :=
  (sm_blk PP X 62 [0, 9, 24, 39, 48, 62, 74, 106, 125] 63 125 _ _ _).trans rfl
set_option maxRecDepth 4000 in
theorem b62_39 (X : smX) (x0 : Nat) (x1 : Nat) (x2 : Int32) (x3 : Int32) (x4 : Int32) (x5 : Int32) (x6 : Int32) (s0 : Int32) (h : smH) : sm_E PP X 62 39 [(0, .ref x0), (1, .ref x1), (2, .int x2), (3, .int x3), (4, .int x4), (5, .int x5), (6, .int x6)] [.int s0] h =
    sm_vc h x0 3 (sm_cR (sm_C PP X 17 [.ref x0, .int x3, .int x6] h) fun w1 h2 => sm_E PP X 62 48 [(0, .ref x0), (1, .ref x1), (2, .int x2), (3, .int x3), (4, .int x4), (5, .int x5), (6, .int x6), (7, .int s0)] (w1.toList ++ []) h2) :=
  (sm_blk PP X 62 [0, 9, 24, 39, 48, 62, 74, 106, 125] 63 39 _ _ _).trans rfl
set_option maxRecDepth 4000 in
theorem b62_48 (X : smX) (x0 : Nat) (x1 : Nat) (x2 : Int32) (x3 : Int32) (x4 : Int32) (x5 : Int32) (x6 : Int32) (x7 : Int32) (s0 : Int32) (h : smH) : sm_E PP X 62 48 [(0, .ref x0), (1, .ref x1), (2, .int x2), (3, .int x3), (4, .int x4), (5, .int x5), (6, .int x6), (7, .int x7)] [.int s0] h =
    if x7 = (nI 32) then (sm_E PP X 62 62 [(0, .ref x0), (1, .ref x1), (2, .int x2), (3, .int x3), (4, .int x4), (5, .int x5), (6, .int x6), (7, .int x7), (8, .int s0)] [.int (nI 1)] h) else sm_E PP X 62 62 [(0, .ref x0), (1, .ref x1), (2, .int x2), (3, .int x3), (4, .int x4), (5, .int x5), (6, .int x6), (7, .int x7), (8, .int s0)] [.int (nI 0)] h :=
  (sm_blk PP X 62 [0, 9, 24, 39, 48, 62, 74, 106, 125] 63 48 _ _ _).trans rfl
set_option maxRecDepth 4000 in
theorem b62_62 (X : smX) (x0 : Nat) (x1 : Nat) (x2 : Int32) (x3 : Int32) (x4 : Int32) (x5 : Int32) (x6 : Int32) (x7 : Int32) (x8 : Int32) (s0 : Int32) (h : smH) : sm_E PP X 62 62 [(0, .ref x0), (1, .ref x1), (2, .int x2), (3, .int x3), (4, .int x4), (5, .int x5), (6, .int x6), (7, .int x7), (8, .int x8)] [.int s0] h =
    if x8 = (nI 32) then (sm_E PP X 62 74 [(0, .ref x0), (1, .ref x1), (2, .int x2), (3, .int x3), (4, .int x4), (5, .int x5), (6, .int x6), (7, .int x7), (8, .int x8)] [.int (nI 1), .int s0] h) else sm_E PP X 62 74 [(0, .ref x0), (1, .ref x1), (2, .int x2), (3, .int x3), (4, .int x4), (5, .int x5), (6, .int x6), (7, .int x7), (8, .int x8)] [.int (nI 0), .int s0] h :=
  (sm_blk PP X 62 [0, 9, 24, 39, 48, 62, 74, 106, 125] 63 62 _ _ _).trans rfl
set_option maxRecDepth 4000 in
theorem b62_74 (X : smX) (x0 : Nat) (x1 : Nat) (x2 : Int32) (x3 : Int32) (x4 : Int32) (x5 : Int32) (x6 : Int32) (x7 : Int32) (x8 : Int32) (s0 : Int32) (s1 : Int32) (h : smH) : sm_E PP X 62 74 [(0, .ref x0), (1, .ref x1), (2, .int x2), (3, .int x3), (4, .int x4), (5, .int x5), (6, .int x6), (7, .int x7), (8, .int x8)] [.int s0, .int s1] h =
    if s1 = s0 then (if x7 = (nI 63) then (sm_E PP X 62 106 [(0, .ref x0), (1, .ref x1), (2, .int x2), (3, .int x3), (4, .int (x4 + (nI 1))), (5, .int x5), (6, .int x6)] [] h) else if x7 = x8 then (sm_E PP X 62 106 [(0, .ref x0), (1, .ref x1), (2, .int x2), (3, .int x3), (4, .int x4), (5, .int x5), (6, .int x6)] [] h) else sm_E PP X 62 106 [(0, .ref x0), (1, .ref x1), (2, .int x2), (3, .int x3), (4, .int (x4 + (nI 3))), (5, .int (x5 + (nI 1))), (6, .int x6)] [] h) else some (some (.int (-nI 9)), h) :=
  (sm_blk PP X 62 [0, 9, 24, 39, 48, 62, 74, 106, 125] 63 74 _ _ _).trans rfl
set_option maxRecDepth 4000 in
theorem b62_106 (X : smX) (x0 : Nat) (x1 : Nat) (x2 : Int32) (x3 : Int32) (x4 : Int32) (x5 : Int32) (x6 : Int32) (h : smH) : sm_E PP X 62 106 [(0, .ref x0), (1, .ref x1), (2, .int x2), (3, .int x3), (4, .int x4), (5, .int x5), (6, .int x6)] [] h =
    sm_E PP X 62 24 [(0, .ref x0), (1, .ref x1), (2, .int x2), (3, .int x3), (4, .int x4), (5, .int x5), (6, .int (x6 + (nI 1)))] [] h :=
  (sm_blk PP X 62 [0, 9, 24, 39, 48, 62, 74, 106, 125] 63 106 _ _ _).trans rfl
/-! 63: WornSums$Figures.lengthOf(I)I -/
theorem c63 (X : smX) (x0 : Int32) (h : smH) : sm_C PP X 63 [.int x0] h = sm_E PP X 63 0 [(0, .int x0)] [] h := rfl
set_option maxRecDepth 4000 in
theorem b63_0 (X : smX) (x0 : Int32) (h : smH) : sm_E PP X 63 0 [(0, .int x0)] [] h =
    if (nI 10) ≤ x0 then (if (nI 100) ≤ x0 then (sm_E PP X 63 19 [] [.int (nI 3)] h) else sm_E PP X 63 19 [] [.int (nI 2)] h) else some (some (.int (nI 1)), h) :=
  (sm_blk PP X 63 [0, 19] 14 0 _ _ _).trans rfl
set_option maxRecDepth 4000 in
theorem b63_19 (X : smX) (s0 : Int32) (h : smH) : sm_E PP X 63 19 [] [.int s0] h =
    some (some (.int s0), h) :=
  (sm_blk PP X 63 [0, 19] 14 19 _ _ _).trans rfl
/-! 64: WornSums$Figures.areAlike(II)Z -/
theorem c64 (X : smX) (x0 : Int32) (x1 : Int32) (h : smH) : sm_C PP X 64 [.int x0, .int x1] h = sm_E PP X 64 0 [(0, .int x0), (1, .int x1)] [] h := rfl
set_option maxRecDepth 4000 in
theorem b64_0 (X : smX) (x0 : Int32) (x1 : Int32) (h : smH) : sm_E PP X 64 0 [(0, .int x0), (1, .int x1)] [] h =
    sm_E PP X 64 15 [(2, .int (if x1 < x0 then x1 else x0)), (3, .int (if x0 < x1 then x1 else x0)), (4, .int (nI 0))] [] h :=
  (sm_blk PP X 64 [0, 15, 24, 34, 47, 53] 36 0 _ _ _).trans rfl
set_option maxRecDepth 4000 in
theorem b64_15 (X : smX) (x2 : Int32) (x3 : Int32) (x4 : Int32) (h : smH) : sm_E PP X 64 15 [(2, .int x2), (3, .int x3), (4, .int x4)] [] h =
    bif Nat.blt 5 PP.2.2.2.2.1.length then (sm_cR (sm_C PP X 7 [.retAddr 5] h) fun w1 h2 => sm_E PP X 64 24 [(2, .int x2), (3, .int x3), (4, .int x4)] (w1.toList ++ [.int (x4 + (nI 1))]) h2) else none :=
  (sm_blk PP X 64 [0, 15, 24, 34, 47, 53] 36 15 _ _ _).trans rfl
set_option maxRecDepth 4000 in
theorem b64_24 (X : smX) (x2 : Int32) (x3 : Int32) (x4 : Int32) (s0 : Int32) (s1 : Int32) (h : smH) : sm_E PP X 64 24 [(2, .int x2), (3, .int x3), (4, .int x4)] [.int s0, .int s1] h =
    if s0 ≤ s1 then (if narrow (sm_nk 1) (.int (nI 0)) = .int (nI 0) then some (some (.int (nI 0)), h) else none) else bif Nat.blt 5 PP.2.2.2.2.1.length then (sm_cR (sm_C PP X 12 [.retAddr 5, .int x4] h) fun w1 h2 => sm_E PP X 64 34 [(2, .int x2), (3, .int x3), (4, .int x4)] (w1.toList ++ []) h2) else none :=
  (sm_blk PP X 64 [0, 15, 24, 34, 47, 53] 36 24 _ _ _).trans rfl
set_option maxRecDepth 4000 in
theorem b64_34 (X : smX) (x2 : Int32) (x3 : Int32) (x4 : Int32) (s0 : Int32) (h : smH) : sm_E PP X 64 34 [(2, .int x2), (3, .int x3), (4, .int x4)] [.int s0] h =
    if s0 = x2 then (bif Nat.blt 5 PP.2.2.2.2.1.length then (sm_cR (sm_C PP X 12 [.retAddr 5, .int (x4 + (nI 1))] h) fun w1 h2 => sm_E PP X 64 47 [(2, .int x2), (3, .int x3), (4, .int x4)] (w1.toList ++ []) h2) else none) else sm_E PP X 64 53 [(2, .int x2), (3, .int x3), (4, .int x4)] [] h :=
  (sm_blk PP X 64 [0, 15, 24, 34, 47, 53] 36 34 _ _ _).trans rfl
set_option maxRecDepth 4000 in
theorem b64_47 (X : smX) (x2 : Int32) (x3 : Int32) (x4 : Int32) (s0 : Int32) (h : smH) : sm_E PP X 64 47 [(2, .int x2), (3, .int x3), (4, .int x4)] [.int s0] h =
    if s0 = x3 then (if narrow (sm_nk 1) (.int (nI 1)) = .int (nI 1) then some (some (.int (nI 1)), h) else none) else sm_E PP X 64 53 [(2, .int x2), (3, .int x3), (4, .int x4)] [] h :=
  (sm_blk PP X 64 [0, 15, 24, 34, 47, 53] 36 47 _ _ _).trans rfl
set_option maxRecDepth 4000 in
theorem b64_53 (X : smX) (x2 : Int32) (x3 : Int32) (x4 : Int32) (h : smH) : sm_E PP X 64 53 [(2, .int x2), (3, .int x3), (4, .int x4)] [] h =
    sm_E PP X 64 15 [(2, .int x2), (3, .int x3), (4, .int (x4 + (nI 2)))] [] h :=
  (sm_blk PP X 64 [0, 15, 24, 34, 47, 53] 36 53 _ _ _).trans rfl
/-! 65: WornSums$Figures.doubtOf(LWornSums$Row;I)I -/
theorem c65 (X : smX) (x0 : Nat) (x1 : Int32) (h : smH) : sm_C PP X 65 [.ref x0, .int x1] h = sm_E PP X 65 0 [(0, .ref x0), (1, .int x1)] [] h := rfl
set_option maxRecDepth 4000 in
theorem b65_0 (X : smX) (x0 : Nat) (x1 : Int32) (h : smH) : sm_E PP X 65 0 [(0, .ref x0), (1, .int x1)] [] h =
    sm_gI (sm_f h x0 4 1) fun v1 => sm_cR (sm_C PP X 63 [.int x1] h) fun w2 h3 => sm_E PP X 65 8 [(0, .ref x0), (1, .int x1)] (w2.toList ++ [.int v1]) h3 :=
  (sm_blk PP X 65 [0, 8, 26, 37, 73, 92] 54 0 _ _ _).trans rfl
set_option maxRecDepth 4000 in
theorem b65_8 (X : smX) (x0 : Nat) (x1 : Int32) (s0 : Int32) (s1 : Int32) (h : smH) : sm_E PP X 65 8 [(0, .ref x0), (1, .int x1)] [.int s0, .int s1] h =
    if s1 = s0 then (sm_gI (sm_f h x0 4 1) fun v1 => sm_E PP X 65 26 [(0, .ref x0), (2, .int (nI 0)), (3, .int x1), (4, .int (v1 - (nI 1)))] [] h) else some (some (.int (-nI 9)), h) :=
  (sm_blk PP X 65 [0, 8, 26, 37, 73, 92] 54 8 _ _ _).trans rfl
set_option maxRecDepth 4000 in
theorem b65_26 (X : smX) (x0 : Nat) (x2 : Int32) (x3 : Int32) (x4 : Int32) (h : smH) : sm_E PP X 65 26 [(0, .ref x0), (2, .int x2), (3, .int x3), (4, .int x4)] [] h =
    if x4 < 0 then (some (some (.int x2), h)) else sm_vc h x0 4 (sm_cR (sm_C PP X 37 [.ref x0, .int x4] h) fun w1 h2 => sm_E PP X 65 37 [(0, .ref x0), (2, .int x2), (3, .int x3), (4, .int x4)] (w1.toList ++ []) h2) :=
  (sm_blk PP X 65 [0, 8, 26, 37, 73, 92] 54 26 _ _ _).trans rfl
set_option maxRecDepth 4000 in
theorem b65_37 (X : smX) (x0 : Nat) (x2 : Int32) (x3 : Int32) (x4 : Int32) (s0 : Int32) (h : smH) : sm_E PP X 65 37 [(0, .ref x0), (2, .int x2), (3, .int x3), (4, .int x4)] [.int s0] h =
    if (nI 10) = 0 then none else if (nI 10) = 0 then none else if s0 = (nI 63) then (sm_E PP X 65 92 [(0, .ref x0), (2, .int (x2 + (nI 1))), (3, .int (x3 / (nI 10))), (4, .int x4)] [] h) else sm_cR (sm_C PP X 64 [.int s0, .int ((nI 48) + (x3 - x3 / (nI 10) * (nI 10)))] h) fun w1 h2 => sm_E PP X 65 73 [(0, .ref x0), (2, .int x2), (3, .int (x3 / (nI 10))), (4, .int x4), (5, .int s0), (6, .int ((nI 48) + (x3 - x3 / (nI 10) * (nI 10))))] (w1.toList ++ []) h2 :=
  (sm_blk PP X 65 [0, 8, 26, 37, 73, 92] 54 37 _ _ _).trans rfl
set_option maxRecDepth 4000 in
theorem b65_92 (X : smX) (x0 : Nat) (x2 : Int32) (x3 : Int32) (x4 : Int32) (h : smH) : sm_E PP X 65 92 [(0, .ref x0), (2, .int x2), (3, .int x3), (4, .int x4)] [] h =
    sm_E PP X 65 26 [(0, .ref x0), (2, .int x2), (3, .int x3), (4, .int (x4 + (-nI 1)))] [] h :=
  (sm_blk PP X 65 [0, 8, 26, 37, 73, 92] 54 92 _ _ _).trans rfl
set_option maxRecDepth 4000 in
theorem b65_73 (X : smX) (x0 : Nat) (x2 : Int32) (x3 : Int32) (x4 : Int32) (x5 : Int32) (x6 : Int32) (s0 : Int32) (h : smH) : sm_E PP X 65 73 [(0, .ref x0), (2, .int x2), (3, .int x3), (4, .int x4), (5, .int x5), (6, .int x6)] [.int s0] h =
    if s0 = 0 then (if x5 = x6 then (sm_E PP X 65 92 [(0, .ref x0), (2, .int x2), (3, .int x3), (4, .int x4)] [] h) else some (some (.int (-nI 9)), h)) else sm_E PP X 65 92 [(0, .ref x0), (2, .int (x2 + (nI 2))), (3, .int x3), (4, .int x4)] [] h :=
  (sm_blk PP X 65 [0, 8, 26, 37, 73, 92] 54 73 _ _ _).trans rfl
/-! 66: WornSums$Agreeing.add(II)V -/
theorem c66 (X : smX) (x0 : Nat) (x1 : Int32) (x2 : Int32) (h : smH) : sm_C PP X 66 [.ref x0, .int x1, .int x2] h = sm_E PP X 66 0 [(0, .ref x0), (1, .int x1), (2, .int x2)] [] h := rfl
set_option maxRecDepth 4000 in
theorem b66_0 (X : smX) (x0 : Nat) (x1 : Int32) (x2 : Int32) (h : smH) : sm_E PP X 66 0 [(0, .ref x0), (1, .int x1), (2, .int x2)] [] h =
    sm_gI (sm_f h x0 0 2) fun v1 => sm_gR (sm_f h x0 0 0) fun v2 => sm_al (sm_ar PP X h (.ref v2)) fun n3 => if (nI n3) ≤ v1 then (sm_E PP X 66 54 [] [] h) else sm_gI (sm_f h x0 0 2) fun v4 => sm_gR (sm_f h x0 0 1) fun v5 => sm_al (sm_ar PP X h (.ref v5)) fun n6 => if (nI n6) ≤ v4 then (sm_E PP X 66 54 [] [] h) else sm_gR (sm_f h x0 0 0) fun v7 => sm_gI (sm_f h x0 0 2) fun v8 => sm_st h v7 .int v8 x1 fun h9 => sm_gR (sm_f h9 x0 0 1) fun v10 => sm_gI (sm_f h9 x0 0 2) fun v11 => sm_st h9 v10 .int v11 x2 fun h12 => sm_gI (sm_f h12 x0 0 2) fun v13 => sm_fP h12 x0 0 2 (.int (v13 + (nI 1))) fun h14 => sm_E PP X 66 54 [] [] h14 :=
  (sm_blk PP X 66 [0, 54] 33 0 _ _ _).trans rfl
set_option maxRecDepth 4000 in
theorem b66_54 (X : smX) (h : smH) : sm_E PP X 66 54 [] [] h =
    some (none, h) :=
  (sm_blk PP X 66 [0, 54] 33 54 _ _ _).trans rfl
/-! 67: WornSums$Agreeing.find(LWornSums$Row;LWornSums$Row;ILWornSums$NumberWords;)V -/
theorem c67 (X : smX) (x0 : Nat) (x1 : Nat) (x2 : Nat) (x3 : Int32) (x4 : Nat) (h : smH) : sm_C PP X 67 [.ref x0, .ref x1, .ref x2, .int x3, .ref x4] h = sm_E PP X 67 0 [(0, .ref x0), (1, .ref x1), (2, .ref x2), (3, .int x3), (4, .ref x4)] [] h := rfl
set_option maxRecDepth 4000 in
theorem b67_0 (X : smX) (x0 : Nat) (x1 : Nat) (x2 : Nat) (x3 : Int32) (x4 : Nat) (h : smH) : sm_E PP X 67 0 [(0, .ref x0), (1, .ref x1), (2, .ref x2), (3, .int x3), (4, .ref x4)] [] h =
    sm_fP h x0 0 2 (.int (nI 0)) fun h1 => sm_fP h1 x0 0 3 (.int (nI 0)) fun h2 => sm_fP h2 x0 0 4 (.int (nI 0)) fun h3 => sm_E PP X 67 18 [(0, .ref x0), (1, .ref x1), (2, .ref x2), (3, .int x3), (4, .ref x4), (5, .int (nI 0))] [] h3 :=
  (sm_blk PP X 67 [0, 18, 35, 43, 62, 79, 104] 59 0 _ _ _).trans rfl
set_option maxRecDepth 4000 in
theorem b67_18 (X : smX) (x0 : Nat) (x1 : Nat) (x2 : Nat) (x3 : Int32) (x4 : Nat) (x5 : Int32) (h : smH) : sm_E PP X 67 18 [(0, .ref x0), (1, .ref x1), (2, .ref x2), (3, .int x3), (4, .ref x4), (5, .int x5)] [] h =
    if (nI 1000) ≤ x5 then (some (none, h)) else sm_vc h x4 3 (sm_cR (sm_C PP X 62 [.ref x4, .ref x1, .int x3, .int x5] h) fun w1 h2 => sm_E PP X 67 35 [(0, .ref x0), (1, .ref x1), (2, .ref x2), (3, .int x3), (4, .ref x4), (5, .int x5)] (w1.toList ++ []) h2) :=
  (sm_blk PP X 67 [0, 18, 35, 43, 62, 79, 104] 59 18 _ _ _).trans rfl
set_option maxRecDepth 4000 in
theorem b67_35 (X : smX) (x0 : Nat) (x1 : Nat) (x2 : Nat) (x3 : Int32) (x4 : Nat) (x5 : Int32) (s0 : Int32) (h : smH) : sm_E PP X 67 35 [(0, .ref x0), (1, .ref x1), (2, .ref x2), (3, .int x3), (4, .ref x4), (5, .int x5)] [.int s0] h =
    sm_cR (sm_C PP X 65 [.ref x2, .int x5] h) fun w1 h2 => sm_E PP X 67 43 [(0, .ref x0), (1, .ref x1), (2, .ref x2), (3, .int x3), (4, .ref x4), (5, .int x5), (6, .int s0)] (w1.toList ++ []) h2 :=
  (sm_blk PP X 67 [0, 18, 35, 43, 62, 79, 104] 59 35 _ _ _).trans rfl
set_option maxRecDepth 4000 in
theorem b67_43 (X : smX) (x0 : Nat) (x1 : Nat) (x2 : Nat) (x3 : Int32) (x4 : Nat) (x5 : Int32) (x6 : Int32) (s0 : Int32) (h : smH) : sm_E PP X 67 43 [(0, .ref x0), (1, .ref x1), (2, .ref x2), (3, .int x3), (4, .ref x4), (5, .int x5), (6, .int x6)] [.int s0] h =
    if x6 = (-nI 9) then (sm_E PP X 67 62 [(0, .ref x0), (1, .ref x1), (2, .ref x2), (3, .int x3), (4, .ref x4), (5, .int x5), (6, .int x6), (7, .int s0)] [] h) else sm_gI (sm_f h x0 0 3) fun v1 => sm_fP h x0 0 3 (.int (v1 + (nI 1))) fun h2 => sm_E PP X 67 62 [(0, .ref x0), (1, .ref x1), (2, .ref x2), (3, .int x3), (4, .ref x4), (5, .int x5), (6, .int x6), (7, .int s0)] [] h2 :=
  (sm_blk PP X 67 [0, 18, 35, 43, 62, 79, 104] 59 43 _ _ _).trans rfl
set_option maxRecDepth 4000 in
theorem b67_62 (X : smX) (x0 : Nat) (x1 : Nat) (x2 : Nat) (x3 : Int32) (x4 : Nat) (x5 : Int32) (x6 : Int32) (x7 : Int32) (h : smH) : sm_E PP X 67 62 [(0, .ref x0), (1, .ref x1), (2, .ref x2), (3, .int x3), (4, .ref x4), (5, .int x5), (6, .int x6), (7, .int x7)] [] h =
    if x7 = (-nI 9) then (sm_E PP X 67 79 [(0, .ref x0), (1, .ref x1), (2, .ref x2), (3, .int x3), (4, .ref x4), (5, .int x5), (6, .int x6), (7, .int x7)] [] h) else sm_gI (sm_f h x0 0 4) fun v1 => sm_fP h x0 0 4 (.int (v1 + (nI 1))) fun h2 => sm_E PP X 67 79 [(0, .ref x0), (1, .ref x1), (2, .ref x2), (3, .int x3), (4, .ref x4), (5, .int x5), (6, .int x6), (7, .int x7)] [] h2 :=
  (sm_blk PP X 67 [0, 18, 35, 43, 62, 79, 104] 59 62 _ _ _).trans rfl
set_option maxRecDepth 4000 in
theorem b67_79 (X : smX) (x0 : Nat) (x1 : Nat) (x2 : Nat) (x3 : Int32) (x4 : Nat) (x5 : Int32) (x6 : Int32) (x7 : Int32) (h : smH) : sm_E PP X 67 79 [(0, .ref x0), (1, .ref x1), (2, .ref x2), (3, .int x3), (4, .ref x4), (5, .int x5), (6, .int x6), (7, .int x7)] [] h =
    if x6 = (-nI 9) then (sm_E PP X 67 104 [(0, .ref x0), (1, .ref x1), (2, .ref x2), (3, .int x3), (4, .ref x4), (5, .int x5)] [] h) else if x7 = (-nI 9) then (sm_E PP X 67 104 [(0, .ref x0), (1, .ref x1), (2, .ref x2), (3, .int x3), (4, .ref x4), (5, .int x5)] [] h) else sm_vc h x0 0 (sm_cR (sm_C PP X 66 [.ref x0, .int x5, .int (x6 + x7)] h) fun w1 h2 => sm_E PP X 67 104 [(0, .ref x0), (1, .ref x1), (2, .ref x2), (3, .int x3), (4, .ref x4), (5, .int x5)] (w1.toList ++ []) h2) :=
  (sm_blk PP X 67 [0, 18, 35, 43, 62, 79, 104] 59 79 _ _ _).trans rfl
set_option maxRecDepth 4000 in
theorem b67_104 (X : smX) (x0 : Nat) (x1 : Nat) (x2 : Nat) (x3 : Int32) (x4 : Nat) (x5 : Int32) (h : smH) : sm_E PP X 67 104 [(0, .ref x0), (1, .ref x1), (2, .ref x2), (3, .int x3), (4, .ref x4), (5, .int x5)] [] h =
    sm_E PP X 67 18 [(0, .ref x0), (1, .ref x1), (2, .ref x2), (3, .int x3), (4, .ref x4), (5, .int (x5 + (nI 1)))] [] h :=
  (sm_blk PP X 67 [0, 18, 35, 43, 62, 79, 104] 59 104 _ _ _).trans rfl
/-! 68: WornSums$Findings.refresh(LWornSums$Sheet;LWornSums$NumberWords;)V -/
theorem c68 (X : smX) (x0 : Nat) (x1 : Nat) (x2 : Nat) (h : smH) : sm_C PP X 68 [.ref x0, .ref x1, .ref x2] h = sm_E PP X 68 0 [(0, .ref x0), (1, .ref x1), (2, .ref x2)] [] h := rfl
set_option maxRecDepth 4000 in
theorem b68_0 (X : smX) (x0 : Nat) (x1 : Nat) (x2 : Nat) (h : smH) : sm_E PP X 68 0 [(0, .ref x0), (1, .ref x1), (2, .ref x2)] [] h =
    sm_gI (sm_f h x0 1 1) fun v1 => if v1 = 0 then (sm_E PP X 68 10 [(0, .ref x0), (1, .ref x1), (2, .ref x2), (3, .int (nI 0))] [] h) else some (none, h) :=
  (sm_blk PP X 68 [0, 10, 50, 56] 37 0 _ _ _).trans rfl
set_option maxRecDepth 4000 in
theorem b68_10 (X : smX) (x0 : Nat) (x1 : Nat) (x2 : Nat) (x3 : Int32) (h : smH) : sm_E PP X 68 10 [(0, .ref x0), (1, .ref x1), (2, .ref x2), (3, .int x3)] [] h =
    sm_gI (sm_f h x1 5 2) fun v1 => if v1 ≤ x3 then (sm_E PP X 68 56 [(0, .ref x0)] [] h) else if (nI 6) ≤ x3 then (sm_E PP X 68 56 [(0, .ref x0)] [] h) else sm_gR (sm_f h x0 1 0) fun v2 => sm_ldR (sm_ar PP X h (.ref v2)) x3 fun v3 => sm_gR (sm_f h x1 5 0) fun v4 => sm_ldR (sm_ar PP X h (.ref v4)) x3 fun v5 => sm_gR (sm_f h x1 5 1) fun v6 => sm_ldR (sm_ar PP X h (.ref v6)) x3 fun v7 => sm_gI (sm_f h x1 5 3) fun v8 => sm_vc h v3 0 (sm_cR (sm_C PP X 67 [.ref v3, .ref v5, .ref v7, .int v8, .ref x2] h) fun w9 h10 => sm_E PP X 68 50 [(0, .ref x0), (1, .ref x1), (2, .ref x2), (3, .int x3)] (w9.toList ++ []) h10) :=
  (sm_blk PP X 68 [0, 10, 50, 56] 37 10 _ _ _).trans rfl
set_option maxRecDepth 4000 in
theorem b68_56 (X : smX) (x0 : Nat) (h : smH) : sm_E PP X 68 56 [(0, .ref x0)] [] h =
    if narrow (PP.2.1 1 1) (.int (nI 1)) = .int (nI 1) ∧ fits (PP.2.1 1 1) (.int (nI 1)) = true then (sm_fP h x0 1 1 (.int (nI 1)) fun h1 => some (none, h1)) else none :=
  (sm_blk PP X 68 [0, 10, 50, 56] 37 56 _ _ _).trans rfl
set_option maxRecDepth 4000 in
theorem b68_50 (X : smX) (x0 : Nat) (x1 : Nat) (x2 : Nat) (x3 : Int32) (h : smH) : sm_E PP X 68 50 [(0, .ref x0), (1, .ref x1), (2, .ref x2), (3, .int x3)] [] h =
    sm_E PP X 68 10 [(0, .ref x0), (1, .ref x1), (2, .ref x2), (3, .int (x3 + (nI 1)))] [] h :=
  (sm_blk PP X 68 [0, 10, 50, 56] 37 50 _ _ _).trans rfl
/-! 69: WornSums$Findings.agreeingAt(I)LWornSums$Agreeing; -/
theorem c69 (X : smX) (x0 : Nat) (x1 : Int32) (h : smH) : sm_C PP X 69 [.ref x0, .int x1] h = sm_E PP X 69 0 [(0, .ref x0), (1, .int x1)] [] h := rfl
set_option maxRecDepth 4000 in
theorem b69_0 (X : smX) (x0 : Nat) (x1 : Int32) (h : smH) : sm_E PP X 69 0 [(0, .ref x0), (1, .int x1)] [] h =
    sm_gR (sm_f h x0 1 0) fun v1 => if x1 < 0 then (sm_E PP X 69 18 [] [.ref v1] h) else if (nI 6) ≤ x1 then (sm_E PP X 69 18 [] [.ref v1] h) else sm_E PP X 69 19 [] [.int x1, .ref v1] h :=
  (sm_blk PP X 69 [0, 18, 19] 14 0 _ _ _).trans rfl
set_option maxRecDepth 4000 in
theorem b69_18 (X : smX) (s0 : Nat) (h : smH) : sm_E PP X 69 18 [] [.ref s0] h =
    sm_E PP X 69 19 [] [.int (nI 0), .ref s0] h :=
  (sm_blk PP X 69 [0, 18, 19] 14 18 _ _ _).trans rfl
set_option maxRecDepth 4000 in
theorem b69_19 (X : smX) (s0 : Int32) (s1 : Nat) (h : smH) : sm_E PP X 69 19 [] [.int s0, .ref s1] h =
    sm_ldR (sm_ar PP X h (.ref s1)) s0 fun v1 => some (some (.ref v1), h) :=
  (sm_blk PP X 69 [0, 18, 19] 14 19 _ _ _).trans rfl
/-! 70: WornSums.agreeingOf(I)LWornSums$Agreeing; -/
theorem c70 (X : smX) (x0 : Nat) (x1 : Int32) (h : smH) : sm_C PP X 70 [.ref x0, .int x1] h = sm_E PP X 70 0 [(0, .ref x0), (1, .int x1)] [] h := rfl
set_option maxRecDepth 4000 in
theorem b70_0 (X : smX) (x0 : Nat) (x1 : Int32) (h : smH) : sm_E PP X 70 0 [(0, .ref x0), (1, .int x1)] [] h =
    sm_gR (sm_f h x0 7 6) fun v1 => sm_gR (sm_f h x0 7 1) fun v2 => sm_gR (sm_f h x0 7 5) fun v3 => sm_vc h v1 1 (sm_cR (sm_C PP X 68 [.ref v1, .ref v2, .ref v3] h) fun w4 h5 => sm_E PP X 70 15 [(0, .ref x0), (1, .int x1)] (w4.toList ++ []) h5) :=
  (sm_blk PP X 70 [0, 15, 23] 14 0 _ _ _).trans rfl
set_option maxRecDepth 4000 in
theorem b70_15 (X : smX) (x0 : Nat) (x1 : Int32) (h : smH) : sm_E PP X 70 15 [(0, .ref x0), (1, .int x1)] [] h =
    sm_gR (sm_f h x0 7 6) fun v1 => sm_vc h v1 1 (sm_cR (sm_C PP X 69 [.ref v1, .int x1] h) fun w2 h3 => sm_E PP X 70 23 [] (w2.toList ++ []) h3) :=
  (sm_blk PP X 70 [0, 15, 23] 14 15 _ _ _).trans rfl
set_option maxRecDepth 4000 in
theorem b70_23 (X : smX) (s0 : Nat) (h : smH) : sm_E PP X 70 23 [] [.ref s0] h =
    some (some (.ref s0), h) :=
  (sm_blk PP X 70 [0, 15, 23] 14 23 _ _ _).trans rfl
/-! 71: WornSums.entry(II)I -/
theorem c71 (X : smX) (x0 : Nat) (x1 : Int32) (x2 : Int32) (h : smH) : sm_C PP X 71 [.ref x0, .int x1, .int x2] h = sm_E PP X 71 0 [(0, .ref x0), (1, .int x1), (2, .int x2)] [] h := rfl
set_option maxRecDepth 4000 in
theorem b71_0 (X : smX) (x0 : Nat) (x1 : Int32) (x2 : Int32) (h : smH) : sm_E PP X 71 0 [(0, .ref x0), (1, .int x1), (2, .int x2)] [] h =
    sm_gR (sm_f h x0 7 1) fun v1 => sm_vc h v1 5 (sm_cR (sm_C PP X 48 [.ref v1, .int x1] h) fun w2 h3 => sm_E PP X 71 8 [(0, .ref x0), (1, .int x1), (2, .int x2)] (w2.toList ++ []) h3) :=
  (sm_blk PP X 71 [0, 8, 14, 52, 61, 62, 71, 72, 80, 81, 86, 90, 95, 99, 104, 108] 45 0 _ _ _).trans rfl
set_option maxRecDepth 4000 in
theorem b71_8 (X : smX) (x0 : Nat) (x1 : Int32) (x2 : Int32) (s0 : Int32) (h : smH) : sm_E PP X 71 8 [(0, .ref x0), (1, .int x1), (2, .int x2)] [.int s0] h =
    if s0 = 0 then (some (some (.int (-nI 1)), h)) else sm_E PP X 71 14 [(0, .ref x0), (1, .int x1), (2, .int x2)] [.int x2] h :=
  (sm_blk PP X 71 [0, 8, 14, 52, 61, 62, 71, 72, 80, 81, 86, 90, 95, 99, 104, 108] 45 8 _ _ _).trans rfl
set_option maxRecDepth 4000 in
theorem b71_14 (X : smX) (x0 : Nat) (x1 : Int32) (x2 : Int32) (s0 : Int32) (h : smH) : sm_E PP X 71 14 [(0, .ref x0), (1, .int x1), (2, .int x2)] [.int s0] h =
    if s0.toInt < 0 ∨ 5 < s0.toInt then (sm_E PP X 71 108 [] [] h) else sm_sw (#[38, 48, 58, 67, 76, 85] : Array Int)[(s0.toInt - 0).toNat]? fun o1 => sm_E PP X 71 (sm_tg 14 o1) (sm_tr PP 71 (sm_tg 14 o1) [(0, .ref x0), (1, .int x1), (2, .int x2)]) [] h :=
  (sm_blk PP X 71 [0, 8, 14, 52, 61, 62, 71, 72, 80, 81, 86, 90, 95, 99, 104, 108] 0 14 _ _ _).trans rfl
set_option maxRecDepth 4000 in
theorem b71_52 (X : smX) (x0 : Nat) (x1 : Int32) (h : smH) : sm_E PP X 71 52 [(0, .ref x0), (1, .int x1)] [] h =
    sm_gR (sm_f h x0 7 1) fun v1 => sm_vc h v1 5 (sm_cR (sm_C PP X 61 [.ref v1, .int x1, .int (nI 0)] h) fun w2 h3 => sm_E PP X 71 61 [] (w2.toList ++ []) h3) :=
  (sm_blk PP X 71 [0, 8, 14, 52, 61, 62, 71, 72, 80, 81, 86, 90, 95, 99, 104, 108] 45 52 _ _ _).trans rfl
set_option maxRecDepth 4000 in
theorem b71_62 (X : smX) (x0 : Nat) (x1 : Int32) (h : smH) : sm_E PP X 71 62 [(0, .ref x0), (1, .int x1)] [] h =
    sm_gR (sm_f h x0 7 1) fun v1 => sm_vc h v1 5 (sm_cR (sm_C PP X 61 [.ref v1, .int x1, .int (nI 1)] h) fun w2 h3 => sm_E PP X 71 71 [] (w2.toList ++ []) h3) :=
  (sm_blk PP X 71 [0, 8, 14, 52, 61, 62, 71, 72, 80, 81, 86, 90, 95, 99, 104, 108] 45 62 _ _ _).trans rfl
set_option maxRecDepth 4000 in
theorem b71_72 (X : smX) (x0 : Nat) (x1 : Int32) (h : smH) : sm_E PP X 71 72 [(0, .ref x0), (1, .int x1)] [] h =
    sm_gR (sm_f h x0 7 1) fun v1 => sm_vc h v1 5 (sm_cR (sm_C PP X 55 [.ref v1, .int x1] h) fun w2 h3 => sm_E PP X 71 80 [] (w2.toList ++ []) h3) :=
  (sm_blk PP X 71 [0, 8, 14, 52, 61, 62, 71, 72, 80, 81, 86, 90, 95, 99, 104, 108] 45 72 _ _ _).trans rfl
set_option maxRecDepth 4000 in
theorem b71_81 (X : smX) (x0 : Nat) (x1 : Int32) (h : smH) : sm_E PP X 71 81 [(0, .ref x0), (1, .int x1)] [] h =
    sm_vc h x0 7 (sm_cR (sm_C PP X 70 [.ref x0, .int x1] h) fun w1 h2 => sm_E PP X 71 86 [] (w1.toList ++ []) h2) :=
  (sm_blk PP X 71 [0, 8, 14, 52, 61, 62, 71, 72, 80, 81, 86, 90, 95, 99, 104, 108] 45 81 _ _ _).trans rfl
set_option maxRecDepth 4000 in
theorem b71_90 (X : smX) (x0 : Nat) (x1 : Int32) (h : smH) : sm_E PP X 71 90 [(0, .ref x0), (1, .int x1)] [] h =
    sm_vc h x0 7 (sm_cR (sm_C PP X 70 [.ref x0, .int x1] h) fun w1 h2 => sm_E PP X 71 95 [] (w1.toList ++ []) h2) :=
  (sm_blk PP X 71 [0, 8, 14, 52, 61, 62, 71, 72, 80, 81, 86, 90, 95, 99, 104, 108] 45 90 _ _ _).trans rfl
set_option maxRecDepth 4000 in
theorem b71_99 (X : smX) (x0 : Nat) (x1 : Int32) (h : smH) : sm_E PP X 71 99 [(0, .ref x0), (1, .int x1)] [] h =
    sm_vc h x0 7 (sm_cR (sm_C PP X 70 [.ref x0, .int x1] h) fun w1 h2 => sm_E PP X 71 104 [] (w1.toList ++ []) h2) :=
  (sm_blk PP X 71 [0, 8, 14, 52, 61, 62, 71, 72, 80, 81, 86, 90, 95, 99, 104, 108] 45 99 _ _ _).trans rfl
set_option maxRecDepth 4000 in
theorem b71_108 (X : smX) (h : smH) : sm_E PP X 71 108 [] [] h =
    some (some (.int (-nI 1)), h) :=
  (sm_blk PP X 71 [0, 8, 14, 52, 61, 62, 71, 72, 80, 81, 86, 90, 95, 99, 104, 108] 45 108 _ _ _).trans rfl
set_option maxRecDepth 4000 in
theorem b71_61 (X : smX) (s0 : Int32) (h : smH) : sm_E PP X 71 61 [] [.int s0] h =
    some (some (.int s0), h) :=
  (sm_blk PP X 71 [0, 8, 14, 52, 61, 62, 71, 72, 80, 81, 86, 90, 95, 99, 104, 108] 45 61 _ _ _).trans rfl
set_option maxRecDepth 4000 in
theorem b71_71 (X : smX) (s0 : Int32) (h : smH) : sm_E PP X 71 71 [] [.int s0] h =
    some (some (.int s0), h) :=
  (sm_blk PP X 71 [0, 8, 14, 52, 61, 62, 71, 72, 80, 81, 86, 90, 95, 99, 104, 108] 45 71 _ _ _).trans rfl
set_option maxRecDepth 4000 in
theorem b71_80 (X : smX) (s0 : Int32) (h : smH) : sm_E PP X 71 80 [] [.int s0] h =
    some (some (.int s0), h) :=
  (sm_blk PP X 71 [0, 8, 14, 52, 61, 62, 71, 72, 80, 81, 86, 90, 95, 99, 104, 108] 45 80 _ _ _).trans rfl
set_option maxRecDepth 4000 in
theorem b71_86 (X : smX) (s0 : Nat) (h : smH) : sm_E PP X 71 86 [] [.ref s0] h =
    sm_gI (sm_f h s0 0 3) fun v1 => some (some (.int v1), h) :=
  (sm_blk PP X 71 [0, 8, 14, 52, 61, 62, 71, 72, 80, 81, 86, 90, 95, 99, 104, 108] 45 86 _ _ _).trans rfl
set_option maxRecDepth 4000 in
theorem b71_95 (X : smX) (s0 : Nat) (h : smH) : sm_E PP X 71 95 [] [.ref s0] h =
    sm_gI (sm_f h s0 0 4) fun v1 => some (some (.int v1), h) :=
  (sm_blk PP X 71 [0, 8, 14, 52, 61, 62, 71, 72, 80, 81, 86, 90, 95, 99, 104, 108] 45 95 _ _ _).trans rfl
set_option maxRecDepth 4000 in
theorem b71_104 (X : smX) (s0 : Nat) (h : smH) : sm_E PP X 71 104 [] [.ref s0] h =
    sm_gI (sm_f h s0 0 2) fun v1 => some (some (.int v1), h) :=
  (sm_blk PP X 71 [0, 8, 14, 52, 61, 62, 71, 72, 80, 81, 86, 90, 95, 99, 104, 108] 45 104 _ _ _).trans rfl
/-! 72: WornSums.sign(III)I -/
theorem c72 (X : smX) (x0 : Nat) (x1 : Int32) (x2 : Int32) (x3 : Int32) (h : smH) : sm_C PP X 72 [.ref x0, .int x1, .int x2, .int x3] h = sm_E PP X 72 0 [(0, .ref x0), (1, .int x1), (2, .int x2), (3, .int x3)] [] h := rfl
set_option maxRecDepth 4000 in
theorem b72_0 (X : smX) (x0 : Nat) (x1 : Int32) (x2 : Int32) (x3 : Int32) (h : smH) : sm_E PP X 72 0 [(0, .ref x0), (1, .int x1), (2, .int x2), (3, .int x3)] [] h =
    sm_gR (sm_f h x0 7 1) fun v1 => sm_vc h v1 5 (sm_cR (sm_C PP X 51 [.ref v1, .int x1, .int x2] h) fun w2 h3 => sm_E PP X 72 9 [(3, .int x3)] (w2.toList ++ []) h3) :=
  (sm_blk PP X 72 [0, 9, 22, 25, 35] 20 0 _ _ _).trans rfl
set_option maxRecDepth 4000 in
theorem b72_9 (X : smX) (x3 : Int32) (s0 : Nat) (h : smH) : sm_E PP X 72 9 [(3, .int x3)] [.ref s0] h =
    sm_vc h s0 4 (sm_cR (sm_C PP X 36 [.ref s0, .int x3] h) fun w1 h2 => sm_E PP X 72 22 [(3, .int x3), (4, .ref s0)] (w1.toList ++ []) h2) :=
  (sm_blk PP X 72 [0, 9, 22, 25, 35] 20 9 _ _ _).trans rfl
set_option maxRecDepth 4000 in
theorem b72_9_1 (X : smX) (x3 : Int32) (h : smH) : sm_E PP X 72 9 [(3, .int x3)] [.null] h =
    sm_E PP X 72 25 [] [] h :=
  (sm_blk PP X 72 [0, 9, 22, 25, 35] 20 9 _ _ _).trans rfl
set_option maxRecDepth 4000 in
theorem b72_22 (X : smX) (x3 : Int32) (x4 : Nat) (s0 : Int32) (h : smH) : sm_E PP X 72 22 [(3, .int x3), (4, .ref x4)] [.int s0] h =
    if s0 = 0 then (sm_E PP X 72 25 [] [] h) else sm_vc h x4 4 (sm_cR (sm_C PP X 37 [.ref x4, .int x3] h) fun w1 h2 => sm_E PP X 72 35 [] (w1.toList ++ []) h2) :=
  (sm_blk PP X 72 [0, 9, 22, 25, 35] 20 22 _ _ _).trans rfl
set_option maxRecDepth 4000 in
theorem b72_25 (X : smX) (h : smH) : sm_E PP X 72 25 [] [] h =
    sm_E PP X 72 35 [] [.int (-nI 1)] h :=
  (sm_blk PP X 72 [0, 9, 22, 25, 35] 20 25 _ _ _).trans rfl
set_option maxRecDepth 4000 in
theorem b72_35 (X : smX) (s0 : Int32) (h : smH) : sm_E PP X 72 35 [] [.int s0] h =
    some (some (.int s0), h) :=
  (sm_blk PP X 72 [0, 9, 22, 25, 35] 20 35 _ _ _).trans rfl
/-! 73: WornSums.doubt(III)I -/
theorem c73 (X : smX) (x0 : Nat) (x1 : Int32) (x2 : Int32) (x3 : Int32) (h : smH) : sm_C PP X 73 [.ref x0, .int x1, .int x2, .int x3] h = sm_E PP X 73 0 [(0, .ref x0), (1, .int x1), (2, .int x2), (3, .int x3)] [] h := rfl
set_option maxRecDepth 4000 in
theorem b73_0 (X : smX) (x0 : Nat) (x1 : Int32) (x2 : Int32) (x3 : Int32) (h : smH) : sm_E PP X 73 0 [(0, .ref x0), (1, .int x1), (2, .int x2), (3, .int x3)] [] h =
    sm_gR (sm_f h x0 7 1) fun v1 => sm_vc h v1 5 (sm_cR (sm_C PP X 51 [.ref v1, .int x1, .int x3] h) fun w2 h3 => sm_E PP X 73 9 [(0, .ref x0), (2, .int x2), (3, .int x3)] (w2.toList ++ []) h3) :=
  (sm_blk PP X 73 [0, 9, 20, 23, 46, 55] 30 0 _ _ _).trans rfl
set_option maxRecDepth 4000 in
theorem b73_9 (X : smX) (x0 : Nat) (x2 : Int32) (x3 : Int32) (s0 : Nat) (h : smH) : sm_E PP X 73 9 [(0, .ref x0), (2, .int x2), (3, .int x3)] [.ref s0] h =
    sm_cR (sm_C PP X 13 [.int x2] h) fun w1 h2 => sm_E PP X 73 20 [(0, .ref x0), (2, .int x2), (3, .int x3), (4, .ref s0)] (w1.toList ++ []) h2 :=
  (sm_blk PP X 73 [0, 9, 20, 23, 46, 55] 30 9 _ _ _).trans rfl
set_option maxRecDepth 4000 in
theorem b73_9_1 (X : smX) (x0 : Nat) (x2 : Int32) (x3 : Int32) (h : smH) : sm_E PP X 73 9 [(0, .ref x0), (2, .int x2), (3, .int x3)] [.null] h =
    sm_E PP X 73 23 [] [] h :=
  (sm_blk PP X 73 [0, 9, 20, 23, 46, 55] 30 9 _ _ _).trans rfl
set_option maxRecDepth 4000 in
theorem b73_20 (X : smX) (x0 : Nat) (x2 : Int32) (x3 : Int32) (x4 : Nat) (s0 : Int32) (h : smH) : sm_E PP X 73 20 [(0, .ref x0), (2, .int x2), (3, .int x3), (4, .ref x4)] [.int s0] h =
    if s0 = 0 then (sm_E PP X 73 23 [] [] h) else if x3 = 0 then (sm_gR (sm_f h x0 7 5) fun v1 => sm_gR (sm_f h x0 7 1) fun v2 => sm_gI (sm_f h v2 5 3) fun v3 => sm_vc h v1 3 (sm_cR (sm_C PP X 62 [.ref v1, .ref x4, .int v3, .int x2] h) fun w4 h5 => sm_E PP X 73 46 [] (w4.toList ++ []) h5)) else sm_cR (sm_C PP X 65 [.ref x4, .int x2] h) fun w6 h7 => sm_E PP X 73 55 [] (w6.toList ++ []) h7 :=
  (sm_blk PP X 73 [0, 9, 20, 23, 46, 55] 30 20 _ _ _).trans rfl
set_option maxRecDepth 4000 in
theorem b73_23 (X : smX) (h : smH) : sm_E PP X 73 23 [] [] h =
    some (some (.int (-nI 1)), h) :=
  (sm_blk PP X 73 [0, 9, 20, 23, 46, 55] 30 23 _ _ _).trans rfl
set_option maxRecDepth 4000 in
theorem b73_46 (X : smX) (s0 : Int32) (h : smH) : sm_E PP X 73 46 [] [.int s0] h =
    sm_E PP X 73 55 [] [.int s0] h :=
  (sm_blk PP X 73 [0, 9, 20, 23, 46, 55] 30 46 _ _ _).trans rfl
set_option maxRecDepth 4000 in
theorem b73_55 (X : smX) (s0 : Int32) (h : smH) : sm_E PP X 73 55 [] [.int s0] h =
    some (some (.int s0), h) :=
  (sm_blk PP X 73 [0, 9, 20, 23, 46, 55] 30 55 _ _ _).trans rfl
/-! 74: WornSums$Agreeing.doubtAt(I)I -/
theorem c74 (X : smX) (x0 : Nat) (x1 : Int32) (h : smH) : sm_C PP X 74 [.ref x0, .int x1] h = sm_E PP X 74 0 [(0, .ref x0), (1, .int x1)] [] h := rfl
set_option maxRecDepth 4000 in
theorem b74_0 (X : smX) (x0 : Nat) (x1 : Int32) (h : smH) : sm_E PP X 74 0 [(0, .ref x0), (1, .int x1)] [] h =
    if x1 < 0 then (sm_E PP X 74 30 [] [] h) else sm_gI (sm_f h x0 0 2) fun v1 => if v1 ≤ x1 then (sm_E PP X 74 30 [] [] h) else sm_gR (sm_f h x0 0 1) fun v2 => sm_al (sm_ar PP X h (.ref v2)) fun n3 => if (nI n3) ≤ x1 then (sm_E PP X 74 30 [] [] h) else sm_gR (sm_f h x0 0 1) fun v4 => sm_ld (sm_ar PP X h (.ref v4)) .int x1 fun v5 => sm_E PP X 74 32 [] [.int v5] h :=
  (sm_blk PP X 74 [0, 30, 32] 20 0 _ _ _).trans rfl
set_option maxRecDepth 4000 in
theorem b74_30 (X : smX) (h : smH) : sm_E PP X 74 30 [] [] h =
    sm_E PP X 74 32 [] [.int (-nI 9)] h :=
  (sm_blk PP X 74 [0, 30, 32] 20 30 _ _ _).trans rfl
set_option maxRecDepth 4000 in
theorem b74_32 (X : smX) (s0 : Int32) (h : smH) : sm_E PP X 74 32 [] [.int s0] h =
    some (some (.int s0), h) :=
  (sm_blk PP X 74 [0, 30, 32] 20 32 _ _ _).trans rfl
/-! 75: WornSums$Agreeing.rankOf(I)I -/
theorem c75 (X : smX) (x0 : Nat) (x1 : Int32) (h : smH) : sm_C PP X 75 [.ref x0, .int x1] h = sm_E PP X 75 0 [(0, .ref x0), (1, .int x1)] [] h := rfl
set_option maxRecDepth 4000 in
theorem b75_0 (X : smX) (x0 : Nat) (x1 : Int32) (h : smH) : sm_E PP X 75 0 [(0, .ref x0), (1, .int x1)] [] h =
    sm_E PP X 75 4 [(0, .ref x0), (1, .int x1), (2, .int (nI 0)), (3, .int (nI 0))] [] h :=
  (sm_blk PP X 75 [0, 4, 17, 22, 30, 37, 42, 54, 55, 67, 70] 44 0 _ _ _).trans rfl
set_option maxRecDepth 4000 in
theorem b75_4 (X : smX) (x0 : Nat) (x1 : Int32) (x2 : Int32) (x3 : Int32) (h : smH) : sm_E PP X 75 4 [(0, .ref x0), (1, .int x1), (2, .int x2), (3, .int x3)] [] h =
    sm_gI (sm_f h x0 0 2) fun v1 => if v1 ≤ x3 then (some (some (.int x2), h)) else sm_vc h x0 0 (sm_cR (sm_C PP X 74 [.ref x0, .int x3] h) fun w2 h3 => sm_E PP X 75 17 [(0, .ref x0), (1, .int x1), (2, .int x2), (3, .int x3)] (w2.toList ++ []) h3) :=
  (sm_blk PP X 75 [0, 4, 17, 22, 30, 37, 42, 54, 55, 67, 70] 44 4 _ _ _).trans rfl
set_option maxRecDepth 4000 in
theorem b75_17 (X : smX) (x0 : Nat) (x1 : Int32) (x2 : Int32) (x3 : Int32) (s0 : Int32) (h : smH) : sm_E PP X 75 17 [(0, .ref x0), (1, .int x1), (2, .int x2), (3, .int x3)] [.int s0] h =
    sm_vc h x0 0 (sm_cR (sm_C PP X 74 [.ref x0, .int x1] h) fun w1 h2 => sm_E PP X 75 22 [(0, .ref x0), (1, .int x1), (2, .int x2), (3, .int x3)] (w1.toList ++ [.int s0]) h2) :=
  (sm_blk PP X 75 [0, 4, 17, 22, 30, 37, 42, 54, 55, 67, 70] 44 17 _ _ _).trans rfl
set_option maxRecDepth 4000 in
theorem b75_22 (X : smX) (x0 : Nat) (x1 : Int32) (x2 : Int32) (x3 : Int32) (s0 : Int32) (s1 : Int32) (h : smH) : sm_E PP X 75 22 [(0, .ref x0), (1, .int x1), (2, .int x2), (3, .int x3)] [.int s0, .int s1] h =
    if s0 ≤ s1 then (sm_E PP X 75 30 [(0, .ref x0), (1, .int x1), (2, .int x2), (3, .int x3)] [.int (nI 0)] h) else sm_E PP X 75 30 [(0, .ref x0), (1, .int x1), (2, .int x2), (3, .int x3)] [.int (nI 1)] h :=
  (sm_blk PP X 75 [0, 4, 17, 22, 30, 37, 42, 54, 55, 67, 70] 44 22 _ _ _).trans rfl
set_option maxRecDepth 4000 in
theorem b75_30 (X : smX) (x0 : Nat) (x1 : Int32) (x2 : Int32) (x3 : Int32) (s0 : Int32) (h : smH) : sm_E PP X 75 30 [(0, .ref x0), (1, .int x1), (2, .int x2), (3, .int x3)] [.int s0] h =
    sm_vc h x0 0 (sm_cR (sm_C PP X 74 [.ref x0, .int x3] h) fun w1 h2 => sm_E PP X 75 37 [(0, .ref x0), (1, .int x1), (2, .int x2), (3, .int x3), (4, .int s0)] (w1.toList ++ []) h2) :=
  (sm_blk PP X 75 [0, 4, 17, 22, 30, 37, 42, 54, 55, 67, 70] 44 30 _ _ _).trans rfl
set_option maxRecDepth 4000 in
theorem b75_37 (X : smX) (x0 : Nat) (x1 : Int32) (x2 : Int32) (x3 : Int32) (x4 : Int32) (s0 : Int32) (h : smH) : sm_E PP X 75 37 [(0, .ref x0), (1, .int x1), (2, .int x2), (3, .int x3), (4, .int x4)] [.int s0] h =
    sm_vc h x0 0 (sm_cR (sm_C PP X 74 [.ref x0, .int x1] h) fun w1 h2 => sm_E PP X 75 42 [(0, .ref x0), (1, .int x1), (2, .int x2), (3, .int x3), (4, .int x4)] (w1.toList ++ [.int s0]) h2) :=
  (sm_blk PP X 75 [0, 4, 17, 22, 30, 37, 42, 54, 55, 67, 70] 44 37 _ _ _).trans rfl
set_option maxRecDepth 4000 in
theorem b75_42 (X : smX) (x0 : Nat) (x1 : Int32) (x2 : Int32) (x3 : Int32) (x4 : Int32) (s0 : Int32) (s1 : Int32) (h : smH) : sm_E PP X 75 42 [(0, .ref x0), (1, .int x1), (2, .int x2), (3, .int x3), (4, .int x4)] [.int s0, .int s1] h =
    if s1 = s0 then (if x1 ≤ x3 then (sm_E PP X 75 54 [(0, .ref x0), (1, .int x1), (2, .int x2), (3, .int x3), (4, .int x4)] [] h) else sm_E PP X 75 55 [(0, .ref x0), (1, .int x1), (2, .int x2), (3, .int x3), (4, .int x4)] [.int (nI 1)] h) else sm_E PP X 75 54 [(0, .ref x0), (1, .int x1), (2, .int x2), (3, .int x3), (4, .int x4)] [] h :=
  (sm_blk PP X 75 [0, 4, 17, 22, 30, 37, 42, 54, 55, 67, 70] 44 42 _ _ _).trans rfl
set_option maxRecDepth 4000 in
theorem b75_54 (X : smX) (x0 : Nat) (x1 : Int32) (x2 : Int32) (x3 : Int32) (x4 : Int32) (h : smH) : sm_E PP X 75 54 [(0, .ref x0), (1, .int x1), (2, .int x2), (3, .int x3), (4, .int x4)] [] h =
    sm_E PP X 75 55 [(0, .ref x0), (1, .int x1), (2, .int x2), (3, .int x3), (4, .int x4)] [.int (nI 0)] h :=
  (sm_blk PP X 75 [0, 4, 17, 22, 30, 37, 42, 54, 55, 67, 70] 44 54 _ _ _).trans rfl
set_option maxRecDepth 4000 in
theorem b75_55 (X : smX) (x0 : Nat) (x1 : Int32) (x2 : Int32) (x3 : Int32) (x4 : Int32) (s0 : Int32) (h : smH) : sm_E PP X 75 55 [(0, .ref x0), (1, .int x1), (2, .int x2), (3, .int x3), (4, .int x4)] [.int s0] h =
    if x4 = 0 then (if s0 = 0 then (sm_E PP X 75 70 [(0, .ref x0), (1, .int x1), (2, .int x2), (3, .int x3)] [] h) else sm_E PP X 75 67 [(0, .ref x0), (1, .int x1), (2, .int x2), (3, .int x3)] [] h) else sm_E PP X 75 67 [(0, .ref x0), (1, .int x1), (2, .int x2), (3, .int x3)] [] h :=
  (sm_blk PP X 75 [0, 4, 17, 22, 30, 37, 42, 54, 55, 67, 70] 44 55 _ _ _).trans rfl
set_option maxRecDepth 4000 in
theorem b75_70 (X : smX) (x0 : Nat) (x1 : Int32) (x2 : Int32) (x3 : Int32) (h : smH) : sm_E PP X 75 70 [(0, .ref x0), (1, .int x1), (2, .int x2), (3, .int x3)] [] h =
    sm_E PP X 75 4 [(0, .ref x0), (1, .int x1), (2, .int x2), (3, .int (x3 + (nI 1)))] [] h :=
  (sm_blk PP X 75 [0, 4, 17, 22, 30, 37, 42, 54, 55, 67, 70] 44 70 _ _ _).trans rfl
set_option maxRecDepth 4000 in
theorem b75_67 (X : smX) (x0 : Nat) (x1 : Int32) (x2 : Int32) (x3 : Int32) (h : smH) : sm_E PP X 75 67 [(0, .ref x0), (1, .int x1), (2, .int x2), (3, .int x3)] [] h =
    sm_E PP X 75 70 [(0, .ref x0), (1, .int x1), (2, .int (x2 + (nI 1))), (3, .int x3)] [] h :=
  (sm_blk PP X 75 [0, 4, 17, 22, 30, 37, 42, 54, 55, 67, 70] 44 67 _ _ _).trans rfl
/-! 76: WornSums$Agreeing.indexOfRank(I)I -/
theorem c76 (X : smX) (x0 : Nat) (x1 : Int32) (h : smH) : sm_C PP X 76 [.ref x0, .int x1] h = sm_E PP X 76 0 [(0, .ref x0), (1, .int x1)] [] h := rfl
set_option maxRecDepth 4000 in
theorem b76_0 (X : smX) (x0 : Nat) (x1 : Int32) (h : smH) : sm_E PP X 76 0 [(0, .ref x0), (1, .int x1)] [] h =
    sm_E PP X 76 2 [(0, .ref x0), (1, .int x1), (2, .int (nI 0))] [] h :=
  (sm_blk PP X 76 [0, 2, 15] 19 0 _ _ _).trans rfl
set_option maxRecDepth 4000 in
theorem b76_2 (X : smX) (x0 : Nat) (x1 : Int32) (x2 : Int32) (h : smH) : sm_E PP X 76 2 [(0, .ref x0), (1, .int x1), (2, .int x2)] [] h =
    sm_gI (sm_f h x0 0 2) fun v1 => if v1 ≤ x2 then (some (some (.int (-nI 9)), h)) else sm_vc h x0 0 (sm_cR (sm_C PP X 75 [.ref x0, .int x2] h) fun w2 h3 => sm_E PP X 76 15 [(0, .ref x0), (1, .int x1), (2, .int x2)] (w2.toList ++ []) h3) :=
  (sm_blk PP X 76 [0, 2, 15] 19 2 _ _ _).trans rfl
set_option maxRecDepth 4000 in
theorem b76_15 (X : smX) (x0 : Nat) (x1 : Int32) (x2 : Int32) (s0 : Int32) (h : smH) : sm_E PP X 76 15 [(0, .ref x0), (1, .int x1), (2, .int x2)] [.int s0] h =
    if s0 = x1 then (some (some (.int x2), h)) else sm_E PP X 76 2 [(0, .ref x0), (1, .int x1), (2, .int (x2 + (nI 1)))] [] h :=
  (sm_blk PP X 76 [0, 2, 15] 19 15 _ _ _).trans rfl
/-! 77: WornSums$Agreeing.numberAt(I)I -/
theorem c77 (X : smX) (x0 : Nat) (x1 : Int32) (h : smH) : sm_C PP X 77 [.ref x0, .int x1] h = sm_E PP X 77 0 [(0, .ref x0), (1, .int x1)] [] h := rfl
set_option maxRecDepth 4000 in
theorem b77_0 (X : smX) (x0 : Nat) (x1 : Int32) (h : smH) : sm_E PP X 77 0 [(0, .ref x0), (1, .int x1)] [] h =
    if x1 < 0 then (sm_E PP X 77 30 [] [] h) else sm_gI (sm_f h x0 0 2) fun v1 => if v1 ≤ x1 then (sm_E PP X 77 30 [] [] h) else sm_gR (sm_f h x0 0 0) fun v2 => sm_al (sm_ar PP X h (.ref v2)) fun n3 => if (nI n3) ≤ x1 then (sm_E PP X 77 30 [] [] h) else sm_gR (sm_f h x0 0 0) fun v4 => sm_ld (sm_ar PP X h (.ref v4)) .int x1 fun v5 => sm_E PP X 77 32 [] [.int v5] h :=
  (sm_blk PP X 77 [0, 30, 32] 20 0 _ _ _).trans rfl
set_option maxRecDepth 4000 in
theorem b77_30 (X : smX) (h : smH) : sm_E PP X 77 30 [] [] h =
    sm_E PP X 77 32 [] [.int (-nI 9)] h :=
  (sm_blk PP X 77 [0, 30, 32] 20 30 _ _ _).trans rfl
set_option maxRecDepth 4000 in
theorem b77_32 (X : smX) (s0 : Int32) (h : smH) : sm_E PP X 77 32 [] [.int s0] h =
    some (some (.int s0), h) :=
  (sm_blk PP X 77 [0, 30, 32] 20 32 _ _ _).trans rfl
/-! 78: WornSums.ranked(III)I -/
theorem c78 (X : smX) (x0 : Nat) (x1 : Int32) (x2 : Int32) (x3 : Int32) (h : smH) : sm_C PP X 78 [.ref x0, .int x1, .int x2, .int x3] h = sm_E PP X 78 0 [(0, .ref x0), (1, .int x1), (2, .int x2), (3, .int x3)] [] h := rfl
set_option maxRecDepth 4000 in
theorem b78_0 (X : smX) (x0 : Nat) (x1 : Int32) (x2 : Int32) (x3 : Int32) (h : smH) : sm_E PP X 78 0 [(0, .ref x0), (1, .int x1), (2, .int x2), (3, .int x3)] [] h =
    sm_gR (sm_f h x0 7 1) fun v1 => sm_vc h v1 5 (sm_cR (sm_C PP X 48 [.ref v1, .int x1] h) fun w2 h3 => sm_E PP X 78 8 [(0, .ref x0), (1, .int x1), (2, .int x2), (3, .int x3)] (w2.toList ++ []) h3) :=
  (sm_blk PP X 78 [0, 8, 24, 31, 39, 62, 72] 39 0 _ _ _).trans rfl
set_option maxRecDepth 4000 in
theorem b78_8 (X : smX) (x0 : Nat) (x1 : Int32) (x2 : Int32) (x3 : Int32) (s0 : Int32) (h : smH) : sm_E PP X 78 8 [(0, .ref x0), (1, .int x1), (2, .int x2), (3, .int x3)] [.int s0] h =
    if s0 = 0 then (sm_E PP X 78 24 [] [] h) else if x2 < 0 then (sm_E PP X 78 24 [] [] h) else if x3 < 0 then (sm_E PP X 78 24 [] [] h) else if x3 ≤ (nI 1) then (sm_vc h x0 7 (sm_cR (sm_C PP X 70 [.ref x0, .int x1] h) fun w1 h2 => sm_E PP X 78 31 [(2, .int x2), (3, .int x3)] (w1.toList ++ []) h2)) else sm_E PP X 78 24 [] [] h :=
  (sm_blk PP X 78 [0, 8, 24, 31, 39, 62, 72] 39 8 _ _ _).trans rfl
set_option maxRecDepth 4000 in
theorem b78_24 (X : smX) (h : smH) : sm_E PP X 78 24 [] [] h =
    some (some (.int (-nI 1)), h) :=
  (sm_blk PP X 78 [0, 8, 24, 31, 39, 62, 72] 39 24 _ _ _).trans rfl
set_option maxRecDepth 4000 in
theorem b78_31 (X : smX) (x2 : Int32) (x3 : Int32) (s0 : Nat) (h : smH) : sm_E PP X 78 31 [(2, .int x2), (3, .int x3)] [.ref s0] h =
    sm_vc h s0 0 (sm_cR (sm_C PP X 76 [.ref s0, .int x2] h) fun w1 h2 => sm_E PP X 78 39 [(3, .int x3), (4, .ref s0)] (w1.toList ++ []) h2) :=
  (sm_blk PP X 78 [0, 8, 24, 31, 39, 62, 72] 39 31 _ _ _).trans rfl
set_option maxRecDepth 4000 in
theorem b78_39 (X : smX) (x3 : Int32) (x4 : Nat) (s0 : Int32) (h : smH) : sm_E PP X 78 39 [(3, .int x3), (4, .ref x4)] [.int s0] h =
    if s0 = (-nI 9) then (some (some (.int (-nI 9)), h)) else if x3 = 0 then (sm_vc h x4 0 (sm_cR (sm_C PP X 77 [.ref x4, .int s0] h) fun w1 h2 => sm_E PP X 78 62 [] (w1.toList ++ []) h2)) else sm_vc h x4 0 (sm_cR (sm_C PP X 74 [.ref x4, .int s0] h) fun w3 h4 => sm_E PP X 78 72 [] (w3.toList ++ []) h4) :=
  (sm_blk PP X 78 [0, 8, 24, 31, 39, 62, 72] 39 39 _ _ _).trans rfl
set_option maxRecDepth 4000 in
theorem b78_62 (X : smX) (s0 : Int32) (h : smH) : sm_E PP X 78 62 [] [.int s0] h =
    sm_E PP X 78 72 [] [.int s0] h :=
  (sm_blk PP X 78 [0, 8, 24, 31, 39, 62, 72] 39 62 _ _ _).trans rfl
set_option maxRecDepth 4000 in
theorem b78_72 (X : smX) (s0 : Int32) (h : smH) : sm_E PP X 78 72 [] [.int s0] h =
    some (some (.int s0), h) :=
  (sm_blk PP X 78 [0, 8, 24, 31, 39, 62, 72] 39 72 _ _ _).trans rfl
/-! 79: WornSums.word(II)I -/
theorem c79 (X : smX) (x0 : Nat) (x1 : Int32) (x2 : Int32) (h : smH) : sm_C PP X 79 [.ref x0, .int x1, .int x2] h = sm_E PP X 79 0 [(0, .ref x0), (1, .int x1), (2, .int x2)] [] h := rfl
set_option maxRecDepth 4000 in
theorem b79_0 (X : smX) (x0 : Nat) (x1 : Int32) (x2 : Int32) (h : smH) : sm_E PP X 79 0 [(0, .ref x0), (1, .int x1), (2, .int x2)] [] h =
    sm_cR (sm_C PP X 13 [.int x1] h) fun w1 h2 => sm_E PP X 79 4 [(0, .ref x0), (1, .int x1), (2, .int x2)] (w1.toList ++ []) h2 :=
  (sm_blk PP X 79 [0, 4, 12, 27, 39] 24 0 _ _ _).trans rfl
set_option maxRecDepth 4000 in
theorem b79_4 (X : smX) (x0 : Nat) (x1 : Int32) (x2 : Int32) (s0 : Int32) (h : smH) : sm_E PP X 79 4 [(0, .ref x0), (1, .int x1), (2, .int x2)] [.int s0] h =
    if s0 = 0 then (sm_E PP X 79 12 [] [] h) else if (-nI 1) ≤ x2 then (if x2 = (-nI 1) then (sm_gR (sm_f h x0 7 5) fun v1 => sm_vc h v1 3 (sm_cR (sm_C PP X 16 [.ref v1, .int x1] h) fun w2 h3 => sm_E PP X 79 27 [] (w2.toList ++ []) h3)) else sm_gR (sm_f h x0 7 5) fun v4 => sm_vc h v4 3 (sm_cR (sm_C PP X 17 [.ref v4, .int x1, .int x2] h) fun w5 h6 => sm_E PP X 79 39 [] (w5.toList ++ []) h6)) else sm_E PP X 79 12 [] [] h :=
  (sm_blk PP X 79 [0, 4, 12, 27, 39] 24 4 _ _ _).trans rfl
set_option maxRecDepth 4000 in
theorem b79_12 (X : smX) (h : smH) : sm_E PP X 79 12 [] [] h =
    some (some (.int (-nI 1)), h) :=
  (sm_blk PP X 79 [0, 4, 12, 27, 39] 24 12 _ _ _).trans rfl
set_option maxRecDepth 4000 in
theorem b79_27 (X : smX) (s0 : Int32) (h : smH) : sm_E PP X 79 27 [] [.int s0] h =
    sm_E PP X 79 39 [] [.int s0] h :=
  (sm_blk PP X 79 [0, 4, 12, 27, 39] 24 27 _ _ _).trans rfl
set_option maxRecDepth 4000 in
theorem b79_39 (X : smX) (s0 : Int32) (h : smH) : sm_E PP X 79 39 [] [.int s0] h =
    some (some (.int s0), h) :=
  (sm_blk PP X 79 [0, 4, 12, 27, 39] 24 39 _ _ _).trans rfl
/-! 80: WornSums$Findings.alteredAmong(I)I -/
theorem c80 (X : smX) (x0 : Nat) (x1 : Int32) (h : smH) : sm_C PP X 80 [.ref x0, .int x1] h = sm_E PP X 80 0 [(0, .ref x0), (1, .int x1)] [] h := rfl
set_option maxRecDepth 4000 in
theorem b80_0 (X : smX) (x0 : Nat) (x1 : Int32) (h : smH) : sm_E PP X 80 0 [(0, .ref x0), (1, .int x1)] [] h =
    sm_E PP X 80 4 [(0, .ref x0), (1, .int x1), (2, .int (nI 0)), (3, .int (nI 0))] [] h :=
  (sm_blk PP X 80 [0, 4, 30, 36] 23 0 _ _ _).trans rfl
set_option maxRecDepth 4000 in
theorem b80_4 (X : smX) (x0 : Nat) (x1 : Int32) (x2 : Int32) (x3 : Int32) (h : smH) : sm_E PP X 80 4 [(0, .ref x0), (1, .int x1), (2, .int x2), (3, .int x3)] [] h =
    if x1 ≤ x3 then (sm_E PP X 80 36 [(2, .int x2)] [] h) else if (nI 6) ≤ x3 then (sm_E PP X 80 36 [(2, .int x2)] [] h) else sm_gR (sm_f h x0 1 0) fun v1 => sm_ldR (sm_ar PP X h (.ref v1)) x3 fun v2 => sm_gI (sm_f h v2 0 2) fun v3 => if v3 = 0 then (sm_E PP X 80 30 [(0, .ref x0), (1, .int x1), (2, .int (x2 + (nI 1))), (3, .int x3)] [] h) else sm_E PP X 80 30 [(0, .ref x0), (1, .int x1), (2, .int x2), (3, .int x3)] [] h :=
  (sm_blk PP X 80 [0, 4, 30, 36] 23 4 _ _ _).trans rfl
set_option maxRecDepth 4000 in
theorem b80_36 (X : smX) (x2 : Int32) (h : smH) : sm_E PP X 80 36 [(2, .int x2)] [] h =
    some (some (.int x2), h) :=
  (sm_blk PP X 80 [0, 4, 30, 36] 23 36 _ _ _).trans rfl
set_option maxRecDepth 4000 in
theorem b80_30 (X : smX) (x0 : Nat) (x1 : Int32) (x2 : Int32) (x3 : Int32) (h : smH) : sm_E PP X 80 30 [(0, .ref x0), (1, .int x1), (2, .int x2), (3, .int x3)] [] h =
    sm_E PP X 80 4 [(0, .ref x0), (1, .int x1), (2, .int x2), (3, .int (x3 + (nI 1)))] [] h :=
  (sm_blk PP X 80 [0, 4, 30, 36] 23 30 _ _ _).trans rfl
/-! 81: WornSums$Findings.findLeastOfAnySum(I)V -/
theorem c81 (X : smX) (x0 : Nat) (x1 : Int32) (h : smH) : sm_C PP X 81 [.ref x0, .int x1] h = sm_E PP X 81 0 [(0, .ref x0), (1, .int x1)] [] h := rfl
set_option maxRecDepth 4000 in
theorem b81_0 (X : smX) (x0 : Nat) (x1 : Int32) (h : smH) : sm_E PP X 81 0 [(0, .ref x0), (1, .int x1)] [] h =
    sm_fP h x0 1 4 (.int (nI 0)) fun h1 => sm_E PP X 81 7 [(0, .ref x0), (1, .int x1), (2, .int (nI 0))] [] h1 :=
  (sm_blk PP X 81 [0, 7, 28, 44, 60, 70] 44 0 _ _ _).trans rfl
set_option maxRecDepth 4000 in
theorem b81_7 (X : smX) (x0 : Nat) (x1 : Int32) (x2 : Int32) (h : smH) : sm_E PP X 81 7 [(0, .ref x0), (1, .int x1), (2, .int x2)] [] h =
    if x1 ≤ x2 then (sm_E PP X 81 70 [] [] h) else if (nI 6) ≤ x2 then (sm_E PP X 81 70 [] [] h) else sm_gR (sm_f h x0 1 0) fun v1 => sm_ldR (sm_ar PP X h (.ref v1)) x2 fun v2 => sm_vc h v2 0 (sm_cR (sm_C PP X 76 [.ref v2, .int (nI 0)] h) fun w3 h4 => sm_E PP X 81 28 [(0, .ref x0), (1, .int x1), (2, .int x2)] (w3.toList ++ []) h4) :=
  (sm_blk PP X 81 [0, 7, 28, 44, 60, 70] 44 7 _ _ _).trans rfl
set_option maxRecDepth 4000 in
theorem b81_70 (X : smX) (h : smH) : sm_E PP X 81 70 [] [] h =
    some (none, h) :=
  (sm_blk PP X 81 [0, 7, 28, 44, 60, 70] 44 70 _ _ _).trans rfl
set_option maxRecDepth 4000 in
theorem b81_28 (X : smX) (x0 : Nat) (x1 : Int32) (x2 : Int32) (s0 : Int32) (h : smH) : sm_E PP X 81 28 [(0, .ref x0), (1, .int x1), (2, .int x2)] [.int s0] h =
    sm_gR (sm_f h x0 1 3) fun v1 => sm_gR (sm_f h x0 1 0) fun v2 => sm_ldR (sm_ar PP X h (.ref v2)) x2 fun v3 => sm_vc h v3 0 (sm_cR (sm_C PP X 77 [.ref v3, .int s0] h) fun w4 h5 => sm_E PP X 81 44 [(0, .ref x0), (1, .int x1), (2, .int x2), (3, .int s0)] (w4.toList ++ [.int x2, .ref v1]) h5) :=
  (sm_blk PP X 81 [0, 7, 28, 44, 60, 70] 44 28 _ _ _).trans rfl
set_option maxRecDepth 4000 in
theorem b81_44 (X : smX) (x0 : Nat) (x1 : Int32) (x2 : Int32) (x3 : Int32) (s0 : Int32) (s1 : Int32) (s2 : Nat) (h : smH) : sm_E PP X 81 44 [(0, .ref x0), (1, .int x1), (2, .int x2), (3, .int x3)] [.int s0, .int s1, .ref s2] h =
    sm_st h s2 .int s1 s0 fun h1 => sm_gI (sm_f h1 x0 1 4) fun v2 => sm_gR (sm_f h1 x0 1 0) fun v3 => sm_ldR (sm_ar PP X h1 (.ref v3)) x2 fun v4 => sm_vc h1 v4 0 (sm_cR (sm_C PP X 74 [.ref v4, .int x3] h1) fun w5 h6 => sm_E PP X 81 60 [(0, .ref x0), (1, .int x1), (2, .int x2)] (w5.toList ++ [.int v2, .ref x0]) h6) :=
  (sm_blk PP X 81 [0, 7, 28, 44, 60, 70] 44 44 _ _ _).trans rfl
set_option maxRecDepth 4000 in
theorem b81_60 (X : smX) (x0 : Nat) (x1 : Int32) (x2 : Int32) (s0 : Int32) (s1 : Int32) (s2 : Nat) (h : smH) : sm_E PP X 81 60 [(0, .ref x0), (1, .int x1), (2, .int x2)] [.int s0, .int s1, .ref s2] h =
    sm_fP h s2 1 4 (.int (s1 + s0)) fun h1 => sm_E PP X 81 7 [(0, .ref x0), (1, .int x1), (2, .int (x2 + (nI 1)))] [] h1 :=
  (sm_blk PP X 81 [0, 7, 28, 44, 60, 70] 44 60 _ _ _).trans rfl
/-! 82: java/util/Arrays.fill([II)V -/
theorem c82 (X : smX) (x0 : Nat) (x1 : Int32) (h : smH) : sm_C PP X 82 [.ref x0, .int x1] h = sm_E PP X 82 0 [(0, .ref x0), (1, .int x1)] [] h := rfl
set_option maxRecDepth 4000 in
theorem b82_0 (X : smX) (x0 : Nat) (x1 : Int32) (h : smH) : sm_E PP X 82 0 [(0, .ref x0), (1, .int x1)] [] h =
    sm_al (sm_ar PP X h (.ref x0)) fun n1 => sm_E PP X 82 5 [(0, .ref x0), (1, .int x1), (2, .int (nI 0)), (3, .int (nI n1))] [] h :=
  (sm_blk PP X 82 [0, 5] 17 0 _ _ _).trans rfl
set_option maxRecDepth 4000 in
theorem b82_5 (X : smX) (x0 : Nat) (x1 : Int32) (x2 : Int32) (x3 : Int32) (h : smH) : sm_E PP X 82 5 [(0, .ref x0), (1, .int x1), (2, .int x2), (3, .int x3)] [] h =
    if x3 ≤ x2 then (some (none, h)) else sm_st h x0 .int x2 x1 fun h1 => sm_E PP X 82 5 [(0, .ref x0), (1, .int x1), (2, .int (x2 + (nI 1))), (3, .int x3)] [] h1 :=
  (sm_blk PP X 82 [0, 5] 17 5 _ _ _).trans rfl
/-! 83: WornSums$Agreeing.highest()I -/
theorem c83 (X : smX) (x0 : Nat) (h : smH) : sm_C PP X 83 [.ref x0] h = sm_E PP X 83 0 [(0, .ref x0)] [] h := rfl
set_option maxRecDepth 4000 in
theorem b83_0 (X : smX) (x0 : Nat) (h : smH) : sm_E PP X 83 0 [(0, .ref x0)] [] h =
    sm_gI (sm_f h x0 0 2) fun v1 => if v1 = 0 then (sm_E PP X 83 21 [] [.int (nI 0)] h) else sm_gI (sm_f h x0 0 2) fun v2 => sm_vc h x0 0 (sm_cR (sm_C PP X 77 [.ref x0, .int (v2 - (nI 1))] h) fun w3 h4 => sm_E PP X 83 21 [] (w3.toList ++ []) h4) :=
  (sm_blk PP X 83 [0, 21] 14 0 _ _ _).trans rfl
set_option maxRecDepth 4000 in
theorem b83_21 (X : smX) (s0 : Int32) (h : smH) : sm_E PP X 83 21 [] [.int s0] h =
    some (some (.int s0), h) :=
  (sm_blk PP X 83 [0, 21] 14 21 _ _ _).trans rfl
/-! 84: WornSums$Findings.doubtWith(LWornSums$Agreeing;I[II)I -/
theorem c84 (X : smX) (x0 : Nat) (x1 : Int32) (x2 : Nat) (x3 : Int32) (h : smH) : sm_C PP X 84 [.ref x0, .int x1, .ref x2, .int x3] h = sm_E PP X 84 0 [(0, .ref x0), (1, .int x1), (2, .ref x2), (3, .int x3)] [] h := rfl
set_option maxRecDepth 4000 in
theorem b84_0 (X : smX) (x0 : Nat) (x1 : Int32) (x2 : Nat) (x3 : Int32) (h : smH) : sm_E PP X 84 0 [(0, .ref x0), (1, .int x1), (2, .ref x2), (3, .int x3)] [] h =
    sm_vc h x0 0 (sm_cR (sm_C PP X 77 [.ref x0, .int x1] h) fun w1 h2 => sm_E PP X 84 6 [(0, .ref x0), (1, .int x1), (2, .ref x2)] (w1.toList ++ [.int x3]) h2) :=
  (sm_blk PP X 84 [0, 6, 29, 36] 29 0 _ _ _).trans rfl
set_option maxRecDepth 4000 in
theorem b84_6 (X : smX) (x0 : Nat) (x1 : Int32) (x2 : Nat) (s0 : Int32) (s1 : Int32) (h : smH) : sm_E PP X 84 6 [(0, .ref x0), (1, .int x1), (2, .ref x2)] [.int s0, .int s1] h =
    if (s1 - s0) < 0 then (sm_E PP X 84 29 [] [] h) else sm_al (sm_ar PP X h (.ref x2)) fun n1 => if (nI n1) ≤ (s1 - s0) then (sm_E PP X 84 29 [] [] h) else sm_ld (sm_ar PP X h (.ref x2)) .int (s1 - s0) fun v2 => if v2 = (-nI 1) then (sm_E PP X 84 29 [] [] h) else sm_vc h x0 0 (sm_cR (sm_C PP X 74 [.ref x0, .int x1] h) fun w3 h4 => sm_E PP X 84 36 [(2, .ref x2), (4, .int (s1 - s0))] (w3.toList ++ []) h4) :=
  (sm_blk PP X 84 [0, 6, 29, 36] 29 6 _ _ _).trans rfl
set_option maxRecDepth 4000 in
theorem b84_29 (X : smX) (h : smH) : sm_E PP X 84 29 [] [] h =
    some (some (.int (-nI 1)), h) :=
  (sm_blk PP X 84 [0, 6, 29, 36] 29 29 _ _ _).trans rfl
set_option maxRecDepth 4000 in
theorem b84_36 (X : smX) (x2 : Nat) (x4 : Int32) (s0 : Int32) (h : smH) : sm_E PP X 84 36 [(2, .ref x2), (4, .int x4)] [.int s0] h =
    sm_ld (sm_ar PP X h (.ref x2)) .int x4 fun v1 => some (some (.int (s0 + v1)), h) :=
  (sm_blk PP X 84 [0, 6, 29, 36] 29 36 _ _ _).trans rfl
/-! 85: WornSums$Findings.leastAt(LWornSums$Agreeing;[II)I -/
theorem c85 (X : smX) (x0 : Nat) (x1 : Nat) (x2 : Int32) (h : smH) : sm_C PP X 85 [.ref x0, .ref x1, .int x2] h = sm_E PP X 85 0 [(0, .ref x0), (1, .ref x1), (2, .int x2)] [] h := rfl
set_option maxRecDepth 4000 in
theorem b85_0 (X : smX) (x0 : Nat) (x1 : Nat) (x2 : Int32) (h : smH) : sm_E PP X 85 0 [(0, .ref x0), (1, .ref x1), (2, .int x2)] [] h =
    sm_E PP X 85 5 [(0, .ref x0), (1, .ref x1), (2, .int x2), (3, .int (-nI 1)), (4, .int (nI 0))] [] h :=
  (sm_blk PP X 85 [0, 5, 22, 41, 44] 31 0 _ _ _).trans rfl
set_option maxRecDepth 4000 in
theorem b85_5 (X : smX) (x0 : Nat) (x1 : Nat) (x2 : Int32) (x3 : Int32) (x4 : Int32) (h : smH) : sm_E PP X 85 5 [(0, .ref x0), (1, .ref x1), (2, .int x2), (3, .int x3), (4, .int x4)] [] h =
    sm_gI (sm_f h x0 0 2) fun v1 => if v1 ≤ x4 then (some (some (.int x3), h)) else sm_cR (sm_C PP X 84 [.ref x0, .int x4, .ref x1, .int x2] h) fun w2 h3 => sm_E PP X 85 22 [(0, .ref x0), (1, .ref x1), (2, .int x2), (3, .int x3), (4, .int x4)] (w2.toList ++ []) h3 :=
  (sm_blk PP X 85 [0, 5, 22, 41, 44] 31 5 _ _ _).trans rfl
set_option maxRecDepth 4000 in
theorem b85_22 (X : smX) (x0 : Nat) (x1 : Nat) (x2 : Int32) (x3 : Int32) (x4 : Int32) (s0 : Int32) (h : smH) : sm_E PP X 85 22 [(0, .ref x0), (1, .ref x1), (2, .int x2), (3, .int x3), (4, .int x4)] [.int s0] h =
    if s0 = (-nI 1) then (sm_E PP X 85 44 [(0, .ref x0), (1, .ref x1), (2, .int x2), (3, .int x3), (4, .int x4)] [] h) else if x3 = (-nI 1) then (sm_E PP X 85 41 [(0, .ref x0), (1, .ref x1), (2, .int x2), (4, .int x4), (5, .int s0)] [] h) else if x3 ≤ s0 then (sm_E PP X 85 44 [(0, .ref x0), (1, .ref x1), (2, .int x2), (3, .int x3), (4, .int x4)] [] h) else sm_E PP X 85 41 [(0, .ref x0), (1, .ref x1), (2, .int x2), (4, .int x4), (5, .int s0)] [] h :=
  (sm_blk PP X 85 [0, 5, 22, 41, 44] 31 22 _ _ _).trans rfl
set_option maxRecDepth 4000 in
theorem b85_44 (X : smX) (x0 : Nat) (x1 : Nat) (x2 : Int32) (x3 : Int32) (x4 : Int32) (h : smH) : sm_E PP X 85 44 [(0, .ref x0), (1, .ref x1), (2, .int x2), (3, .int x3), (4, .int x4)] [] h =
    sm_E PP X 85 5 [(0, .ref x0), (1, .ref x1), (2, .int x2), (3, .int x3), (4, .int (x4 + (nI 1)))] [] h :=
  (sm_blk PP X 85 [0, 5, 22, 41, 44] 31 44 _ _ _).trans rfl
set_option maxRecDepth 4000 in
theorem b85_41 (X : smX) (x0 : Nat) (x1 : Nat) (x2 : Int32) (x4 : Int32) (x5 : Int32) (h : smH) : sm_E PP X 85 41 [(0, .ref x0), (1, .ref x1), (2, .int x2), (4, .int x4), (5, .int x5)] [] h =
    sm_E PP X 85 44 [(0, .ref x0), (1, .ref x1), (2, .int x2), (3, .int x5), (4, .int x4)] [] h :=
  (sm_blk PP X 85 [0, 5, 22, 41, 44] 31 41 _ _ _).trans rfl
/-! 86: WornSums$Findings.fillLeastBySum(II)V -/
theorem c86 (X : smX) (x0 : Nat) (x1 : Int32) (x2 : Int32) (h : smH) : sm_C PP X 86 [.ref x0, .int x1, .int x2] h = sm_E PP X 86 0 [(0, .ref x0), (1, .int x1), (2, .int x2)] [] h := rfl
set_option maxRecDepth 4000 in
theorem b86_0 (X : smX) (x0 : Nat) (x1 : Int32) (x2 : Int32) (h : smH) : sm_E PP X 86 0 [(0, .ref x0), (1, .int x1), (2, .int x2)] [] h =
    sm_E PP X 86 2 [(0, .ref x0), (1, .int x1), (2, .int x2), (3, .int (nI 0))] [] h :=
  (sm_blk PP X 86 [0, 2, 23, 29, 48, 60, 76, 91, 127] 80 0 _ _ _).trans rfl
set_option maxRecDepth 4000 in
theorem b86_2 (X : smX) (x0 : Nat) (x1 : Int32) (x2 : Int32) (x3 : Int32) (h : smH) : sm_E PP X 86 2 [(0, .ref x0), (1, .int x1), (2, .int x2), (3, .int x3)] [] h =
    if x1 < x3 then (sm_E PP X 86 29 [(0, .ref x0), (1, .int x1), (2, .int x2)] [] h) else if (nI 6) < x3 then (sm_E PP X 86 29 [(0, .ref x0), (1, .int x1), (2, .int x2)] [] h) else sm_gR (sm_f h x0 1 2) fun v1 => sm_ldR (sm_ar PP X h (.ref v1)) x3 fun v2 => sm_cR (sm_C PP X 82 [.ref v2, .int (-nI 1)] h) fun w3 h4 => sm_E PP X 86 23 [(0, .ref x0), (1, .int x1), (2, .int x2), (3, .int x3)] (w3.toList ++ []) h4 :=
  (sm_blk PP X 86 [0, 2, 23, 29, 48, 60, 76, 91, 127] 80 2 _ _ _).trans rfl
set_option maxRecDepth 4000 in
theorem b86_29 (X : smX) (x0 : Nat) (x1 : Int32) (x2 : Int32) (h : smH) : sm_E PP X 86 29 [(0, .ref x0), (1, .int x1), (2, .int x2)] [] h =
    if x1 < 0 then (sm_E PP X 86 48 [(0, .ref x0), (1, .int x1), (2, .int x2)] [] h) else if (nI 6) < x1 then (sm_E PP X 86 48 [(0, .ref x0), (1, .int x1), (2, .int x2)] [] h) else sm_gR (sm_f h x0 1 2) fun v1 => sm_ldR (sm_ar PP X h (.ref v1)) x1 fun v2 => sm_st h v2 .int (nI 0) (nI 0) fun h3 => sm_E PP X 86 48 [(0, .ref x0), (1, .int x1), (2, .int x2)] [] h3 :=
  (sm_blk PP X 86 [0, 2, 23, 29, 48, 60, 76, 91, 127] 80 29 _ _ _).trans rfl
set_option maxRecDepth 4000 in
theorem b86_23 (X : smX) (x0 : Nat) (x1 : Int32) (x2 : Int32) (x3 : Int32) (h : smH) : sm_E PP X 86 23 [(0, .ref x0), (1, .int x1), (2, .int x2), (3, .int x3)] [] h =
    sm_E PP X 86 2 [(0, .ref x0), (1, .int x1), (2, .int x2), (3, .int (x3 + (nI 1)))] [] h :=
  (sm_blk PP X 86 [0, 2, 23, 29, 48, 60, 76, 91, 127] 80 23 _ _ _).trans rfl
set_option maxRecDepth 4000 in
theorem b86_48 (X : smX) (x0 : Nat) (x1 : Int32) (x2 : Int32) (h : smH) : sm_E PP X 86 48 [(0, .ref x0), (1, .int x1), (2, .int x2)] [] h =
    sm_E PP X 86 60 [(0, .ref x0), (2, .int x2), (3, .int (nI 0)), (4, .int ((if (nI 6) < x1 then (nI 6) else x1) - (nI 1)))] [] h :=
  (sm_blk PP X 86 [0, 2, 23, 29, 48, 60, 76, 91, 127] 80 48 _ _ _).trans rfl
set_option maxRecDepth 4000 in
theorem b86_60 (X : smX) (x0 : Nat) (x2 : Int32) (x3 : Int32) (x4 : Int32) (h : smH) : sm_E PP X 86 60 [(0, .ref x0), (2, .int x2), (3, .int x3), (4, .int x4)] [] h =
    if x4 < 0 then (some (none, h)) else sm_gR (sm_f h x0 1 0) fun v1 => sm_ldR (sm_ar PP X h (.ref v1)) x4 fun v2 => sm_vc h v2 0 (sm_cR (sm_C PP X 83 [.ref v2] h) fun w3 h4 => sm_E PP X 86 76 [(0, .ref x0), (2, .int x2), (4, .int x4)] (w3.toList ++ [.int x3]) h4) :=
  (sm_blk PP X 86 [0, 2, 23, 29, 48, 60, 76, 91, 127] 80 60 _ _ _).trans rfl
set_option maxRecDepth 4000 in
theorem b86_76 (X : smX) (x0 : Nat) (x2 : Int32) (x4 : Int32) (s0 : Int32) (s1 : Int32) (h : smH) : sm_E PP X 86 76 [(0, .ref x0), (2, .int x2), (4, .int x4)] [.int s0, .int s1] h =
    sm_E PP X 86 91 [(0, .ref x0), (2, .int x2), (3, .int (if (if (nI 5994) < x2 then (nI 5994) else x2) < (s1 + s0) then (if (nI 5994) < x2 then (nI 5994) else x2) else (s1 + s0))), (4, .int x4), (5, .int (nI 0))] [] h :=
  (sm_blk PP X 86 [0, 2, 23, 29, 48, 60, 76, 91, 127] 80 76 _ _ _).trans rfl
set_option maxRecDepth 4000 in
theorem b86_91 (X : smX) (x0 : Nat) (x2 : Int32) (x3 : Int32) (x4 : Int32) (x5 : Int32) (h : smH) : sm_E PP X 86 91 [(0, .ref x0), (2, .int x2), (3, .int x3), (4, .int x4), (5, .int x5)] [] h =
    if x3 < x5 then (sm_E PP X 86 60 [(0, .ref x0), (2, .int x2), (3, .int x3), (4, .int (x4 + (-nI 1)))] [] h) else sm_gR (sm_f h x0 1 2) fun v1 => sm_ldR (sm_ar PP X h (.ref v1)) x4 fun v2 => sm_gR (sm_f h x0 1 0) fun v3 => sm_ldR (sm_ar PP X h (.ref v3)) x4 fun v4 => sm_gR (sm_f h x0 1 2) fun v5 => sm_ldR (sm_ar PP X h (.ref v5)) (x4 + (nI 1)) fun v6 => sm_cR (sm_C PP X 85 [.ref v4, .ref v6, .int x5] h) fun w7 h8 => sm_E PP X 86 127 [(0, .ref x0), (2, .int x2), (3, .int x3), (4, .int x4), (5, .int x5)] (w7.toList ++ [.int x5, .ref v2]) h8 :=
  (sm_blk PP X 86 [0, 2, 23, 29, 48, 60, 76, 91, 127] 80 91 _ _ _).trans rfl
set_option maxRecDepth 4000 in
theorem b86_127 (X : smX) (x0 : Nat) (x2 : Int32) (x3 : Int32) (x4 : Int32) (x5 : Int32) (s0 : Int32) (s1 : Int32) (s2 : Nat) (h : smH) : sm_E PP X 86 127 [(0, .ref x0), (2, .int x2), (3, .int x3), (4, .int x4), (5, .int x5)] [.int s0, .int s1, .ref s2] h =
    sm_st h s2 .int s1 s0 fun h1 => sm_E PP X 86 91 [(0, .ref x0), (2, .int x2), (3, .int x3), (4, .int x4), (5, .int (x5 + (nI 1)))] [] h1 :=
  (sm_blk PP X 86 [0, 2, 23, 29, 48, 60, 76, 91, 127] 80 127 _ _ _).trans rfl
/-! 87: WornSums$Findings.lowestOfLeast(LWornSums$Agreeing;[I[II)I -/
theorem c87 (X : smX) (x0 : Nat) (x1 : Nat) (x2 : Nat) (x3 : Int32) (h : smH) : sm_C PP X 87 [.ref x0, .ref x1, .ref x2, .int x3] h = sm_E PP X 87 0 [(0, .ref x0), (1, .ref x1), (2, .ref x2), (3, .int x3)] [] h := rfl
set_option maxRecDepth 4000 in
theorem b87_0 (X : smX) (x0 : Nat) (x1 : Nat) (x2 : Nat) (x3 : Int32) (h : smH) : sm_E PP X 87 0 [(0, .ref x0), (1, .ref x1), (2, .ref x2), (3, .int x3)] [] h =
    if x3 < 0 then (sm_E PP X 87 10 [] [] h) else sm_al (sm_ar PP X h (.ref x1)) fun n1 => if x3 < (nI n1) then (sm_E PP X 87 15 [(0, .ref x0), (1, .ref x1), (2, .ref x2), (3, .int x3), (4, .int (nI 0))] [] h) else sm_E PP X 87 10 [] [] h :=
  (sm_blk PP X 87 [0, 10, 15, 32, 54, 55] 38 0 _ _ _).trans rfl
set_option maxRecDepth 4000 in
theorem b87_10 (X : smX) (h : smH) : sm_E PP X 87 10 [] [] h =
    some (some (.int (nI 0)), h) :=
  (sm_blk PP X 87 [0, 10, 15, 32, 54, 55] 38 10 _ _ _).trans rfl
set_option maxRecDepth 4000 in
theorem b87_15 (X : smX) (x0 : Nat) (x1 : Nat) (x2 : Nat) (x3 : Int32) (x4 : Int32) (h : smH) : sm_E PP X 87 15 [(0, .ref x0), (1, .ref x1), (2, .ref x2), (3, .int x3), (4, .int x4)] [] h =
    sm_gI (sm_f h x0 0 2) fun v1 => if v1 ≤ x4 then (some (some (.int (nI 0)), h)) else sm_cR (sm_C PP X 84 [.ref x0, .int x4, .ref x2, .int x3] h) fun w2 h3 => sm_E PP X 87 32 [(0, .ref x0), (1, .ref x1), (2, .ref x2), (3, .int x3), (4, .int x4)] (w2.toList ++ []) h3 :=
  (sm_blk PP X 87 [0, 10, 15, 32, 54, 55] 38 15 _ _ _).trans rfl
set_option maxRecDepth 4000 in
theorem b87_32 (X : smX) (x0 : Nat) (x1 : Nat) (x2 : Nat) (x3 : Int32) (x4 : Int32) (s0 : Int32) (h : smH) : sm_E PP X 87 32 [(0, .ref x0), (1, .ref x1), (2, .ref x2), (3, .int x3), (4, .int x4)] [.int s0] h =
    if s0 = (-nI 1) then (sm_E PP X 87 55 [(0, .ref x0), (1, .ref x1), (2, .ref x2), (3, .int x3), (4, .int x4)] [] h) else sm_ld (sm_ar PP X h (.ref x1)) .int x3 fun v1 => if s0 = v1 then (sm_vc h x0 0 (sm_cR (sm_C PP X 77 [.ref x0, .int x4] h) fun w2 h3 => sm_E PP X 87 54 [] (w2.toList ++ []) h3)) else sm_E PP X 87 55 [(0, .ref x0), (1, .ref x1), (2, .ref x2), (3, .int x3), (4, .int x4)] [] h :=
  (sm_blk PP X 87 [0, 10, 15, 32, 54, 55] 38 32 _ _ _).trans rfl
set_option maxRecDepth 4000 in
theorem b87_55 (X : smX) (x0 : Nat) (x1 : Nat) (x2 : Nat) (x3 : Int32) (x4 : Int32) (h : smH) : sm_E PP X 87 55 [(0, .ref x0), (1, .ref x1), (2, .ref x2), (3, .int x3), (4, .int x4)] [] h =
    sm_E PP X 87 15 [(0, .ref x0), (1, .ref x1), (2, .ref x2), (3, .int x3), (4, .int (x4 + (nI 1)))] [] h :=
  (sm_blk PP X 87 [0, 10, 15, 32, 54, 55] 38 55 _ _ _).trans rfl
set_option maxRecDepth 4000 in
theorem b87_54 (X : smX) (s0 : Int32) (h : smH) : sm_E PP X 87 54 [] [.int s0] h =
    some (some (.int s0), h) :=
  (sm_blk PP X 87 [0, 10, 15, 32, 54, 55] 38 54 _ _ _).trans rfl
/-! 88: WornSums$Findings.findLeastOfTotal(II)V -/
theorem c88 (X : smX) (x0 : Nat) (x1 : Int32) (x2 : Int32) (h : smH) : sm_C PP X 88 [.ref x0, .int x1, .int x2] h = sm_E PP X 88 0 [(0, .ref x0), (1, .int x1), (2, .int x2)] [] h := rfl
set_option maxRecDepth 4000 in
theorem b88_0 (X : smX) (x0 : Nat) (x1 : Int32) (x2 : Int32) (h : smH) : sm_E PP X 88 0 [(0, .ref x0), (1, .int x1), (2, .int x2)] [] h =
    if x2 < 0 then (sm_E PP X 88 11 [] [] h) else if x2 ≤ (nI 5994) then (sm_vc h x0 1 (sm_cR (sm_C PP X 86 [.ref x0, .int x1, .int x2] h) fun w1 h2 => sm_E PP X 88 18 [(0, .ref x0), (1, .int x1), (2, .int x2)] (w1.toList ++ []) h2)) else sm_E PP X 88 11 [] [] h :=
  (sm_blk PP X 88 [0, 11, 18, 48, 94, 111] 69 0 _ _ _).trans rfl
set_option maxRecDepth 4000 in
theorem b88_11 (X : smX) (h : smH) : sm_E PP X 88 11 [] [] h =
    some (none, h) :=
  (sm_blk PP X 88 [0, 11, 18, 48, 94, 111] 69 11 _ _ _).trans rfl
set_option maxRecDepth 4000 in
theorem b88_18 (X : smX) (x0 : Nat) (x1 : Int32) (x2 : Int32) (h : smH) : sm_E PP X 88 18 [(0, .ref x0), (1, .int x1), (2, .int x2)] [] h =
    sm_gR (sm_f h x0 1 2) fun v1 => sm_ldR (sm_ar PP X h (.ref v1)) (nI 0) fun v2 => sm_ld (sm_ar PP X h (.ref v2)) .int x2 fun v3 => if v3 = (-nI 1) then (some (none, h)) else sm_gR (sm_f h x0 1 2) fun v4 => sm_ldR (sm_ar PP X h (.ref v4)) (nI 0) fun v5 => sm_ld (sm_ar PP X h (.ref v5)) .int x2 fun v6 => sm_fP h x0 1 4 (.int v6) fun h7 => sm_E PP X 88 48 [(0, .ref x0), (1, .int x1), (3, .int x2), (4, .int (nI 0))] [] h7 :=
  (sm_blk PP X 88 [0, 11, 18, 48, 94, 111] 69 18 _ _ _).trans rfl
set_option maxRecDepth 4000 in
theorem b88_48 (X : smX) (x0 : Nat) (x1 : Int32) (x3 : Int32) (x4 : Int32) (h : smH) : sm_E PP X 88 48 [(0, .ref x0), (1, .int x1), (3, .int x3), (4, .int x4)] [] h =
    if x1 ≤ x4 then (sm_E PP X 88 111 [] [] h) else if (nI 6) ≤ x4 then (sm_E PP X 88 111 [] [] h) else sm_gR (sm_f h x0 1 3) fun v1 => sm_gR (sm_f h x0 1 0) fun v2 => sm_ldR (sm_ar PP X h (.ref v2)) x4 fun v3 => sm_gR (sm_f h x0 1 2) fun v4 => sm_ldR (sm_ar PP X h (.ref v4)) x4 fun v5 => sm_gR (sm_f h x0 1 2) fun v6 => sm_ldR (sm_ar PP X h (.ref v6)) (x4 + (nI 1)) fun v7 => sm_cR (sm_C PP X 87 [.ref v3, .ref v5, .ref v7, .int x3] h) fun w8 h9 => sm_E PP X 88 94 [(0, .ref x0), (1, .int x1), (3, .int x3), (4, .int x4)] (w8.toList ++ [.int x4, .ref v1]) h9 :=
  (sm_blk PP X 88 [0, 11, 18, 48, 94, 111] 69 48 _ _ _).trans rfl
set_option maxRecDepth 4000 in
theorem b88_111 (X : smX) (h : smH) : sm_E PP X 88 111 [] [] h =
    some (none, h) :=
  (sm_blk PP X 88 [0, 11, 18, 48, 94, 111] 69 111 _ _ _).trans rfl
set_option maxRecDepth 4000 in
theorem b88_94 (X : smX) (x0 : Nat) (x1 : Int32) (x3 : Int32) (x4 : Int32) (s0 : Int32) (s1 : Int32) (s2 : Nat) (h : smH) : sm_E PP X 88 94 [(0, .ref x0), (1, .int x1), (3, .int x3), (4, .int x4)] [.int s0, .int s1, .ref s2] h =
    sm_st h s2 .int s1 s0 fun h1 => sm_gR (sm_f h1 x0 1 3) fun v2 => sm_ld (sm_ar PP X h1 (.ref v2)) .int x4 fun v3 => sm_E PP X 88 48 [(0, .ref x0), (1, .int x1), (3, .int (x3 - v3)), (4, .int (x4 + (nI 1)))] [] h1 :=
  (sm_blk PP X 88 [0, 11, 18, 48, 94, 111] 69 94 _ _ _).trans rfl
/-! 89: WornSums$Findings.refreshLeast(LWornSums$Sheet;LWornSums$NumberWords;)V -/
theorem c89 (X : smX) (x0 : Nat) (x1 : Nat) (x2 : Nat) (h : smH) : sm_C PP X 89 [.ref x0, .ref x1, .ref x2] h = sm_E PP X 89 0 [(0, .ref x0), (1, .ref x1), (2, .ref x2)] [] h := rfl
set_option maxRecDepth 4000 in
theorem b89_0 (X : smX) (x0 : Nat) (x1 : Nat) (x2 : Nat) (h : smH) : sm_E PP X 89 0 [(0, .ref x0), (1, .ref x1), (2, .ref x2)] [] h =
    sm_gI (sm_f h x0 1 5) fun v1 => if v1 = 0 then (sm_vc h x0 1 (sm_cR (sm_C PP X 68 [.ref x0, .ref x1, .ref x2] h) fun w2 h3 => sm_E PP X 89 14 [(0, .ref x0), (1, .ref x1)] (w2.toList ++ []) h3)) else some (none, h) :=
  (sm_blk PP X 89 [0, 14, 35, 52, 64] 39 0 _ _ _).trans rfl
set_option maxRecDepth 4000 in
theorem b89_14 (X : smX) (x0 : Nat) (x1 : Nat) (h : smH) : sm_E PP X 89 14 [(0, .ref x0), (1, .ref x1)] [] h =
    sm_gI (sm_f h x1 5 2) fun v1 => sm_fP h x0 1 4 (.int (-nI 9)) fun h2 => sm_vc h2 x0 1 (sm_cR (sm_C PP X 80 [.ref x0, .int (if (nI 6) < v1 then (nI 6) else v1)] h2) fun w3 h4 => sm_E PP X 89 35 [(0, .ref x0), (1, .ref x1), (3, .int (if (nI 6) < v1 then (nI 6) else v1))] (w3.toList ++ []) h4) :=
  (sm_blk PP X 89 [0, 14, 35, 52, 64] 39 14 _ _ _).trans rfl
set_option maxRecDepth 4000 in
theorem b89_35 (X : smX) (x0 : Nat) (x1 : Nat) (x3 : Int32) (s0 : Int32) (h : smH) : sm_E PP X 89 35 [(0, .ref x0), (1, .ref x1), (3, .int x3)] [.int s0] h =
    if s0 = 0 then (sm_gI (sm_f h x1 5 4) fun v1 => if v1 = (-nI 9) then (sm_vc h x0 1 (sm_cR (sm_C PP X 81 [.ref x0, .int x3] h) fun w2 h3 => sm_E PP X 89 52 [(0, .ref x0)] (w2.toList ++ []) h3)) else sm_gI (sm_f h x1 5 4) fun v4 => sm_vc h x0 1 (sm_cR (sm_C PP X 88 [.ref x0, .int x3, .int v4] h) fun w5 h6 => sm_E PP X 89 64 [(0, .ref x0)] (w5.toList ++ []) h6)) else sm_E PP X 89 64 [(0, .ref x0)] [] h :=
  (sm_blk PP X 89 [0, 14, 35, 52, 64] 39 35 _ _ _).trans rfl
set_option maxRecDepth 4000 in
theorem b89_52 (X : smX) (x0 : Nat) (h : smH) : sm_E PP X 89 52 [(0, .ref x0)] [] h =
    sm_E PP X 89 64 [(0, .ref x0)] [] h :=
  (sm_blk PP X 89 [0, 14, 35, 52, 64] 39 52 _ _ _).trans rfl
set_option maxRecDepth 4000 in
theorem b89_64 (X : smX) (x0 : Nat) (h : smH) : sm_E PP X 89 64 [(0, .ref x0)] [] h =
    if narrow (PP.2.1 1 5) (.int (nI 1)) = .int (nI 1) ∧ fits (PP.2.1 1 5) (.int (nI 1)) = true then (sm_fP h x0 1 5 (.int (nI 1)) fun h1 => some (none, h1)) else none :=
  (sm_blk PP X 89 [0, 14, 35, 52, 64] 39 64 _ _ _).trans rfl
/-! 90: WornSums$Findings.leastNumber(I)I -/
theorem c90 (X : smX) (x0 : Nat) (x1 : Int32) (h : smH) : sm_C PP X 90 [.ref x0, .int x1] h = sm_E PP X 90 0 [(0, .ref x0), (1, .int x1)] [] h := rfl
set_option maxRecDepth 4000 in
theorem b90_0 (X : smX) (x0 : Nat) (x1 : Int32) (h : smH) : sm_E PP X 90 0 [(0, .ref x0), (1, .int x1)] [] h =
    sm_gI (sm_f h x0 1 4) fun v1 => if v1 = (-nI 9) then (sm_E PP X 90 23 [(0, .ref x0), (1, .int x1)] [] h) else if x1 < 0 then (sm_E PP X 90 23 [(0, .ref x0), (1, .int x1)] [] h) else if (nI 6) ≤ x1 then (sm_E PP X 90 23 [(0, .ref x0), (1, .int x1)] [] h) else sm_E PP X 90 24 [(0, .ref x0), (1, .int x1)] [.int (nI 1)] h :=
  (sm_blk PP X 90 [0, 23, 24, 40] 24 0 _ _ _).trans rfl
set_option maxRecDepth 4000 in
theorem b90_23 (X : smX) (x0 : Nat) (x1 : Int32) (h : smH) : sm_E PP X 90 23 [(0, .ref x0), (1, .int x1)] [] h =
    sm_E PP X 90 24 [(0, .ref x0), (1, .int x1)] [.int (nI 0)] h :=
  (sm_blk PP X 90 [0, 23, 24, 40] 24 23 _ _ _).trans rfl
set_option maxRecDepth 4000 in
theorem b90_24 (X : smX) (x0 : Nat) (x1 : Int32) (s0 : Int32) (h : smH) : sm_E PP X 90 24 [(0, .ref x0), (1, .int x1)] [.int s0] h =
    if s0 = 0 then (sm_E PP X 90 40 [] [.int (-nI 9)] h) else sm_gR (sm_f h x0 1 3) fun v1 => sm_ld (sm_ar PP X h (.ref v1)) .int x1 fun v2 => sm_E PP X 90 40 [] [.int v2] h :=
  (sm_blk PP X 90 [0, 23, 24, 40] 24 24 _ _ _).trans rfl
set_option maxRecDepth 4000 in
theorem b90_40 (X : smX) (s0 : Int32) (h : smH) : sm_E PP X 90 40 [] [.int s0] h =
    some (some (.int s0), h) :=
  (sm_blk PP X 90 [0, 23, 24, 40] 24 40 _ _ _).trans rfl
/-! 91: WornSums.least(I)I -/
theorem c91 (X : smX) (x0 : Nat) (x1 : Int32) (h : smH) : sm_C PP X 91 [.ref x0, .int x1] h = sm_E PP X 91 0 [(0, .ref x0), (1, .int x1)] [] h := rfl
set_option maxRecDepth 4000 in
theorem b91_0 (X : smX) (x0 : Nat) (x1 : Int32) (h : smH) : sm_E PP X 91 0 [(0, .ref x0), (1, .int x1)] [] h =
    if x1 = (-nI 1) then (sm_E PP X 91 18 [(0, .ref x0), (1, .int x1)] [] h) else sm_gR (sm_f h x0 7 1) fun v1 => sm_vc h v1 5 (sm_cR (sm_C PP X 48 [.ref v1, .int x1] h) fun w2 h3 => sm_E PP X 91 13 [(0, .ref x0), (1, .int x1)] (w2.toList ++ []) h3) :=
  (sm_blk PP X 91 [0, 13, 18, 33, 56] 31 0 _ _ _).trans rfl
set_option maxRecDepth 4000 in
theorem b91_18 (X : smX) (x0 : Nat) (x1 : Int32) (h : smH) : sm_E PP X 91 18 [(0, .ref x0), (1, .int x1)] [] h =
    sm_gR (sm_f h x0 7 6) fun v1 => sm_gR (sm_f h x0 7 1) fun v2 => sm_gR (sm_f h x0 7 5) fun v3 => sm_vc h v1 1 (sm_cR (sm_C PP X 89 [.ref v1, .ref v2, .ref v3] h) fun w4 h5 => sm_E PP X 91 33 [(0, .ref x0), (1, .int x1)] (w4.toList ++ []) h5) :=
  (sm_blk PP X 91 [0, 13, 18, 33, 56] 31 18 _ _ _).trans rfl
set_option maxRecDepth 4000 in
theorem b91_13 (X : smX) (x0 : Nat) (x1 : Int32) (s0 : Int32) (h : smH) : sm_E PP X 91 13 [(0, .ref x0), (1, .int x1)] [.int s0] h =
    if s0 = 0 then (some (some (.int (-nI 1)), h)) else sm_E PP X 91 18 [(0, .ref x0), (1, .int x1)] [] h :=
  (sm_blk PP X 91 [0, 13, 18, 33, 56] 31 13 _ _ _).trans rfl
set_option maxRecDepth 4000 in
theorem b91_33 (X : smX) (x0 : Nat) (x1 : Int32) (h : smH) : sm_E PP X 91 33 [(0, .ref x0), (1, .int x1)] [] h =
    if x1 = (-nI 1) then (sm_gR (sm_f h x0 7 6) fun v1 => sm_gI (sm_f h v1 1 4) fun v2 => sm_E PP X 91 56 [] [.int v2] h) else sm_gR (sm_f h x0 7 6) fun v3 => sm_vc h v3 1 (sm_cR (sm_C PP X 90 [.ref v3, .int x1] h) fun w4 h5 => sm_E PP X 91 56 [] (w4.toList ++ []) h5) :=
  (sm_blk PP X 91 [0, 13, 18, 33, 56] 31 33 _ _ _).trans rfl
set_option maxRecDepth 4000 in
theorem b91_56 (X : smX) (s0 : Int32) (h : smH) : sm_E PP X 91 56 [] [.int s0] h =
    some (some (.int s0), h) :=
  (sm_blk PP X 91 [0, 13, 18, 33, 56] 31 56 _ _ _).trans rfl
/-! 92: WornSums$History.slotOf(I)I -/
theorem c92 (X : smX) (x0 : Int32) (h : smH) : sm_C PP X 92 [.int x0] h = sm_E PP X 92 0 [(0, .int x0)] [] h := rfl
set_option maxRecDepth 4000 in
theorem b92_0 (X : smX) (x0 : Int32) (h : smH) : sm_E PP X 92 0 [(0, .int x0)] [] h =
    sm_cR (sm_C PP X 106 [.int x0, .int (nI 8)] h) fun w1 h2 => sm_E PP X 92 6 [] (w1.toList ++ []) h2 :=
  (sm_blk PP X 92 [0, 6] 6 0 _ _ _).trans rfl
set_option maxRecDepth 4000 in
theorem b92_6 (X : smX) (s0 : Int32) (h : smH) : sm_E PP X 92 6 [] [.int s0] h =
    some (some (.int s0), h) :=
  (sm_blk PP X 92 [0, 6] 6 6 _ _ _).trans rfl
/-! 93: WornSums$Findings.isReached(I)Z -/
theorem c93 (X : smX) (x0 : Nat) (x1 : Int32) (h : smH) : sm_C PP X 93 [.ref x0, .int x1] h = sm_E PP X 93 0 [(0, .ref x0), (1, .int x1)] [] h := rfl
set_option maxRecDepth 4000 in
theorem b93_0 (X : smX) (x0 : Nat) (x1 : Int32) (h : smH) : sm_E PP X 93 0 [(0, .ref x0), (1, .int x1)] [] h =
    if x1 < 0 then (sm_E PP X 93 24 [] [] h) else if (nI 5994) < x1 then (sm_E PP X 93 24 [] [] h) else sm_gR (sm_f h x0 1 6) fun v1 => sm_ld (sm_ar PP X h (.ref v1)) .boolean x1 fun v2 => if v2 = 0 then (sm_E PP X 93 24 [] [] h) else sm_E PP X 93 25 [] [.int (nI 1)] h :=
  (sm_blk PP X 93 [0, 24, 25] 16 0 _ _ _).trans rfl
set_option maxRecDepth 4000 in
theorem b93_24 (X : smX) (h : smH) : sm_E PP X 93 24 [] [] h =
    sm_E PP X 93 25 [] [.int (nI 0)] h :=
  (sm_blk PP X 93 [0, 24, 25] 16 24 _ _ _).trans rfl
set_option maxRecDepth 4000 in
theorem b93_25 (X : smX) (s0 : Int32) (h : smH) : sm_E PP X 93 25 [] [.int s0] h =
    if narrow (sm_nk 1) (.int s0) = .int s0 then some (some (.int s0), h) else none :=
  (sm_blk PP X 93 [0, 24, 25] 16 25 _ _ _).trans rfl
/-! 94: WornSums$Findings.isReachedBy(LWornSums$Agreeing;I)Z -/
theorem c94 (X : smX) (x0 : Nat) (x1 : Nat) (x2 : Int32) (h : smH) : sm_C PP X 94 [.ref x0, .ref x1, .int x2] h = sm_E PP X 94 0 [(0, .ref x0), (1, .ref x1), (2, .int x2)] [] h := rfl
set_option maxRecDepth 4000 in
theorem b94_0 (X : smX) (x0 : Nat) (x1 : Nat) (x2 : Int32) (h : smH) : sm_E PP X 94 0 [(0, .ref x0), (1, .ref x1), (2, .int x2)] [] h =
    sm_E PP X 94 2 [(0, .ref x0), (1, .ref x1), (2, .int x2), (3, .int (nI 0))] [] h :=
  (sm_blk PP X 94 [0, 2, 17, 21] 22 0 _ _ _).trans rfl
set_option maxRecDepth 4000 in
theorem b94_2 (X : smX) (x0 : Nat) (x1 : Nat) (x2 : Int32) (x3 : Int32) (h : smH) : sm_E PP X 94 2 [(0, .ref x0), (1, .ref x1), (2, .int x2), (3, .int x3)] [] h =
    sm_gI (sm_f h x1 0 2) fun v1 => if v1 ≤ x3 then (if narrow (sm_nk 1) (.int (nI 0)) = .int (nI 0) then some (some (.int (nI 0)), h) else none) else sm_vc h x1 0 (sm_cR (sm_C PP X 77 [.ref x1, .int x3] h) fun w2 h3 => sm_E PP X 94 17 [(0, .ref x0), (1, .ref x1), (2, .int x2), (3, .int x3)] (w2.toList ++ [.int x2, .ref x0]) h3) :=
  (sm_blk PP X 94 [0, 2, 17, 21] 22 2 _ _ _).trans rfl
set_option maxRecDepth 4000 in
theorem b94_17 (X : smX) (x0 : Nat) (x1 : Nat) (x2 : Int32) (x3 : Int32) (s0 : Int32) (s1 : Int32) (s2 : Nat) (h : smH) : sm_E PP X 94 17 [(0, .ref x0), (1, .ref x1), (2, .int x2), (3, .int x3)] [.int s0, .int s1, .ref s2] h =
    sm_vc h s2 1 (sm_cR (sm_C PP X 93 [.ref s2, .int (s1 - s0)] h) fun w1 h2 => sm_E PP X 94 21 [(0, .ref x0), (1, .ref x1), (2, .int x2), (3, .int x3)] (w1.toList ++ []) h2) :=
  (sm_blk PP X 94 [0, 2, 17, 21] 22 17 _ _ _).trans rfl
set_option maxRecDepth 4000 in
theorem b94_21 (X : smX) (x0 : Nat) (x1 : Nat) (x2 : Int32) (x3 : Int32) (s0 : Int32) (h : smH) : sm_E PP X 94 21 [(0, .ref x0), (1, .ref x1), (2, .int x2), (3, .int x3)] [.int s0] h =
    if s0 = 0 then (sm_E PP X 94 2 [(0, .ref x0), (1, .ref x1), (2, .int x2), (3, .int (x3 + (nI 1)))] [] h) else if narrow (sm_nk 1) (.int (nI 1)) = .int (nI 1) then some (some (.int (nI 1)), h) else none :=
  (sm_blk PP X 94 [0, 2, 17, 21] 22 21 _ _ _).trans rfl
/-! 95: WornSums$Findings.reachOn(LWornSums$Agreeing;I)V -/
theorem c95 (X : smX) (x0 : Nat) (x1 : Nat) (x2 : Int32) (h : smH) : sm_C PP X 95 [.ref x0, .ref x1, .int x2] h = sm_E PP X 95 0 [(0, .ref x0), (1, .ref x1), (2, .int x2)] [] h := rfl
set_option maxRecDepth 4000 in
theorem b95_0 (X : smX) (x0 : Nat) (x1 : Nat) (x2 : Int32) (h : smH) : sm_E PP X 95 0 [(0, .ref x0), (1, .ref x1), (2, .int x2)] [] h =
    sm_E PP X 95 8 [(0, .ref x0), (1, .ref x1), (3, .int (if (nI 5994) < x2 then (nI 5994) else x2))] [] h :=
  (sm_blk PP X 95 [0, 8, 23] 19 0 _ _ _).trans rfl
set_option maxRecDepth 4000 in
theorem b95_8 (X : smX) (x0 : Nat) (x1 : Nat) (x3 : Int32) (h : smH) : sm_E PP X 95 8 [(0, .ref x0), (1, .ref x1), (3, .int x3)] [] h =
    if x3 < 0 then (some (none, h)) else sm_gR (sm_f h x0 1 6) fun v1 => sm_vc h x0 1 (sm_cR (sm_C PP X 94 [.ref x0, .ref x1, .int x3] h) fun w2 h3 => sm_E PP X 95 23 [(0, .ref x0), (1, .ref x1), (3, .int x3)] (w2.toList ++ [.int x3, .ref v1]) h3) :=
  (sm_blk PP X 95 [0, 8, 23] 19 8 _ _ _).trans rfl
set_option maxRecDepth 4000 in
theorem b95_23 (X : smX) (x0 : Nat) (x1 : Nat) (x3 : Int32) (s0 : Int32) (s1 : Int32) (s2 : Nat) (h : smH) : sm_E PP X 95 23 [(0, .ref x0), (1, .ref x1), (3, .int x3)] [.int s0, .int s1, .ref s2] h =
    sm_st h s2 .boolean s1 (vp_nar .boolean s0) fun h1 => sm_E PP X 95 8 [(0, .ref x0), (1, .ref x1), (3, .int (x3 + (-nI 1)))] [] h1 :=
  (sm_blk PP X 95 [0, 8, 23] 19 23 _ _ _).trans rfl
/-! 96: WornSums$Findings.reachWithout(III)V -/
theorem c96 (X : smX) (x0 : Nat) (x1 : Int32) (x2 : Int32) (x3 : Int32) (h : smH) : sm_C PP X 96 [.ref x0, .int x1, .int x2, .int x3] h = sm_E PP X 96 0 [(0, .ref x0), (1, .int x1), (2, .int x2), (3, .int x3)] [] h := rfl
set_option maxRecDepth 4000 in
theorem b96_0 (X : smX) (x0 : Nat) (x1 : Int32) (x2 : Int32) (x3 : Int32) (h : smH) : sm_E PP X 96 0 [(0, .ref x0), (1, .int x1), (2, .int x2), (3, .int x3)] [] h =
    sm_E PP X 96 3 [(0, .ref x0), (1, .int x1), (2, .int x2), (3, .int x3), (4, .int (nI 0))] [] h :=
  (sm_blk PP X 96 [0, 3, 29, 42, 73, 99, 105] 55 0 _ _ _).trans rfl
set_option maxRecDepth 4000 in
theorem b96_3 (X : smX) (x0 : Nat) (x1 : Int32) (x2 : Int32) (x3 : Int32) (x4 : Int32) (h : smH) : sm_E PP X 96 3 [(0, .ref x0), (1, .int x1), (2, .int x2), (3, .int x3), (4, .int x4)] [] h =
    sm_gR (sm_f h x0 1 6) fun v1 => sm_al (sm_ar PP X h (.ref v1)) fun n2 => if (nI n2) ≤ x4 then (sm_E PP X 96 42 [(0, .ref x0), (1, .int x1), (2, .int x2), (3, .int x3), (4, .int (nI 0)), (5, .int (nI 0))] [] h) else sm_gR (sm_f h x0 1 6) fun v3 => if x4 = 0 then (sm_E PP X 96 29 [(0, .ref x0), (1, .int x1), (2, .int x2), (3, .int x3), (4, .int x4)] [.int (nI 1), .int x4, .ref v3] h) else sm_E PP X 96 29 [(0, .ref x0), (1, .int x1), (2, .int x2), (3, .int x3), (4, .int x4)] [.int (nI 0), .int x4, .ref v3] h :=
  (sm_blk PP X 96 [0, 3, 29, 42, 73, 99, 105] 55 3 _ _ _).trans rfl
set_option maxRecDepth 4000 in
theorem b96_42 (X : smX) (x0 : Nat) (x1 : Int32) (x2 : Int32) (x3 : Int32) (x4 : Int32) (x5 : Int32) (h : smH) : sm_E PP X 96 42 [(0, .ref x0), (1, .int x1), (2, .int x2), (3, .int x3), (4, .int x4), (5, .int x5)] [] h =
    if x2 ≤ x5 then (sm_E PP X 96 105 [] [] h) else if (nI 6) ≤ x5 then (sm_E PP X 96 105 [] [] h) else if x5 = x1 then (sm_E PP X 96 99 [(0, .ref x0), (1, .int x1), (2, .int x2), (3, .int x3), (4, .int x4), (5, .int x5)] [] h) else sm_gR (sm_f h x0 1 0) fun v1 => sm_ldR (sm_ar PP X h (.ref v1)) x5 fun v2 => sm_vc h v2 0 (sm_cR (sm_C PP X 83 [.ref v2] h) fun w3 h4 => sm_E PP X 96 73 [(0, .ref x0), (1, .int x1), (2, .int x2), (3, .int x3), (5, .int x5)] (w3.toList ++ [.int x4]) h4) :=
  (sm_blk PP X 96 [0, 3, 29, 42, 73, 99, 105] 55 42 _ _ _).trans rfl
set_option maxRecDepth 4000 in
theorem b96_29 (X : smX) (x0 : Nat) (x1 : Int32) (x2 : Int32) (x3 : Int32) (x4 : Int32) (s0 : Int32) (s1 : Int32) (s2 : Nat) (h : smH) : sm_E PP X 96 29 [(0, .ref x0), (1, .int x1), (2, .int x2), (3, .int x3), (4, .int x4)] [.int s0, .int s1, .ref s2] h =
    sm_st h s2 .boolean s1 (vp_nar .boolean s0) fun h1 => sm_E PP X 96 3 [(0, .ref x0), (1, .int x1), (2, .int x2), (3, .int x3), (4, .int (x4 + (nI 1)))] [] h1 :=
  (sm_blk PP X 96 [0, 3, 29, 42, 73, 99, 105] 55 29 _ _ _).trans rfl
set_option maxRecDepth 4000 in
theorem b96_105 (X : smX) (h : smH) : sm_E PP X 96 105 [] [] h =
    some (none, h) :=
  (sm_blk PP X 96 [0, 3, 29, 42, 73, 99, 105] 55 105 _ _ _).trans rfl
set_option maxRecDepth 4000 in
theorem b96_99 (X : smX) (x0 : Nat) (x1 : Int32) (x2 : Int32) (x3 : Int32) (x4 : Int32) (x5 : Int32) (h : smH) : sm_E PP X 96 99 [(0, .ref x0), (1, .int x1), (2, .int x2), (3, .int x3), (4, .int x4), (5, .int x5)] [] h =
    sm_E PP X 96 42 [(0, .ref x0), (1, .int x1), (2, .int x2), (3, .int x3), (4, .int x4), (5, .int (x5 + (nI 1)))] [] h :=
  (sm_blk PP X 96 [0, 3, 29, 42, 73, 99, 105] 55 99 _ _ _).trans rfl
set_option maxRecDepth 4000 in
theorem b96_73 (X : smX) (x0 : Nat) (x1 : Int32) (x2 : Int32) (x3 : Int32) (x5 : Int32) (s0 : Int32) (s1 : Int32) (h : smH) : sm_E PP X 96 73 [(0, .ref x0), (1, .int x1), (2, .int x2), (3, .int x3), (5, .int x5)] [.int s0, .int s1] h =
    sm_gR (sm_f h x0 1 0) fun v1 => sm_ldR (sm_ar PP X h (.ref v1)) x5 fun v2 => sm_vc h x0 1 (sm_cR (sm_C PP X 95 [.ref x0, .ref v2, .int (if (if (nI 5994) < x3 then (nI 5994) else x3) < (s1 + s0) then (if (nI 5994) < x3 then (nI 5994) else x3) else (s1 + s0))] h) fun w3 h4 => sm_E PP X 96 99 [(0, .ref x0), (1, .int x1), (2, .int x2), (3, .int x3), (4, .int (if (if (nI 5994) < x3 then (nI 5994) else x3) < (s1 + s0) then (if (nI 5994) < x3 then (nI 5994) else x3) else (s1 + s0))), (5, .int x5)] (w3.toList ++ []) h4) :=
  (sm_blk PP X 96 [0, 3, 29, 42, 73, 99, 105] 55 73 _ _ _).trans rfl
/-! 97: WornSums$Findings.sureNumber(III)I -/
theorem c97 (X : smX) (x0 : Nat) (x1 : Int32) (x2 : Int32) (x3 : Int32) (h : smH) : sm_C PP X 97 [.ref x0, .int x1, .int x2, .int x3] h = sm_E PP X 97 0 [(0, .ref x0), (1, .int x1), (2, .int x2), (3, .int x3)] [] h := rfl
set_option maxRecDepth 4000 in
theorem b97_0 (X : smX) (x0 : Nat) (x1 : Int32) (x2 : Int32) (x3 : Int32) (h : smH) : sm_E PP X 97 0 [(0, .ref x0), (1, .int x1), (2, .int x2), (3, .int x3)] [] h =
    sm_vc h x0 1 (sm_cR (sm_C PP X 80 [.ref x0, .int x2] h) fun w1 h2 => sm_E PP X 97 5 [(0, .ref x0), (1, .int x1), (2, .int x2), (3, .int x3)] (w1.toList ++ []) h2) :=
  (sm_blk PP X 97 [0, 5, 16, 39, 44, 52, 59, 78, 82, 102, 104] 59 0 _ _ _).trans rfl
set_option maxRecDepth 4000 in
theorem b97_5 (X : smX) (x0 : Nat) (x1 : Int32) (x2 : Int32) (x3 : Int32) (s0 : Int32) (h : smH) : sm_E PP X 97 5 [(0, .ref x0), (1, .int x1), (2, .int x2), (3, .int x3)] [.int s0] h =
    if s0 ≤ 0 then (sm_vc h x0 1 (sm_cR (sm_C PP X 69 [.ref x0, .int x1] h) fun w1 h2 => sm_E PP X 97 16 [(0, .ref x0), (1, .int x1), (2, .int x2), (3, .int x3)] (w1.toList ++ []) h2)) else some (some (.int (-nI 9)), h) :=
  (sm_blk PP X 97 [0, 5, 16, 39, 44, 52, 59, 78, 82, 102, 104] 59 5 _ _ _).trans rfl
set_option maxRecDepth 4000 in
theorem b97_16 (X : smX) (x0 : Nat) (x1 : Int32) (x2 : Int32) (x3 : Int32) (s0 : Nat) (h : smH) : sm_E PP X 97 16 [(0, .ref x0), (1, .int x1), (2, .int x2), (3, .int x3)] [.ref s0] h =
    if x3 = (-nI 9) then (sm_gI (sm_f h s0 0 2) fun v1 => if v1 = (nI 1) then (sm_vc h s0 0 (sm_cR (sm_C PP X 77 [.ref s0, .int (nI 0)] h) fun w2 h3 => sm_E PP X 97 39 [] (w2.toList ++ []) h3)) else sm_E PP X 97 44 [] [.int (-nI 9)] h) else sm_vc h x0 1 (sm_cR (sm_C PP X 96 [.ref x0, .int x1, .int x2, .int x3] h) fun w4 h5 => sm_E PP X 97 52 [(0, .ref x0), (3, .int x3), (4, .ref s0)] (w4.toList ++ []) h5) :=
  (sm_blk PP X 97 [0, 5, 16, 39, 44, 52, 59, 78, 82, 102, 104] 59 16 _ _ _).trans rfl
set_option maxRecDepth 4000 in
theorem b97_39 (X : smX) (s0 : Int32) (h : smH) : sm_E PP X 97 39 [] [.int s0] h =
    sm_E PP X 97 44 [] [.int s0] h :=
  (sm_blk PP X 97 [0, 5, 16, 39, 44, 52, 59, 78, 82, 102, 104] 59 39 _ _ _).trans rfl
set_option maxRecDepth 4000 in
theorem b97_44 (X : smX) (s0 : Int32) (h : smH) : sm_E PP X 97 44 [] [.int s0] h =
    some (some (.int s0), h) :=
  (sm_blk PP X 97 [0, 5, 16, 39, 44, 52, 59, 78, 82, 102, 104] 59 44 _ _ _).trans rfl
set_option maxRecDepth 4000 in
theorem b97_52 (X : smX) (x0 : Nat) (x3 : Int32) (x4 : Nat) (h : smH) : sm_E PP X 97 52 [(0, .ref x0), (3, .int x3), (4, .ref x4)] [] h =
    sm_E PP X 97 59 [(0, .ref x0), (3, .int x3), (4, .ref x4), (5, .int (-nI 9)), (6, .int (nI 0))] [] h :=
  (sm_blk PP X 97 [0, 5, 16, 39, 44, 52, 59, 78, 82, 102, 104] 59 52 _ _ _).trans rfl
set_option maxRecDepth 4000 in
theorem b97_59 (X : smX) (x0 : Nat) (x3 : Int32) (x4 : Nat) (x5 : Int32) (x6 : Int32) (h : smH) : sm_E PP X 97 59 [(0, .ref x0), (3, .int x3), (4, .ref x4), (5, .int x5), (6, .int x6)] [] h =
    sm_gI (sm_f h x4 0 2) fun v1 => if v1 ≤ x6 then (some (some (.int x5), h)) else sm_vc h x4 0 (sm_cR (sm_C PP X 77 [.ref x4, .int x6] h) fun w2 h3 => sm_E PP X 97 78 [(0, .ref x0), (3, .int x3), (4, .ref x4), (5, .int x5), (6, .int x6)] (w2.toList ++ [.int x3, .ref x0]) h3) :=
  (sm_blk PP X 97 [0, 5, 16, 39, 44, 52, 59, 78, 82, 102, 104] 59 59 _ _ _).trans rfl
set_option maxRecDepth 4000 in
theorem b97_78 (X : smX) (x0 : Nat) (x3 : Int32) (x4 : Nat) (x5 : Int32) (x6 : Int32) (s0 : Int32) (s1 : Int32) (s2 : Nat) (h : smH) : sm_E PP X 97 78 [(0, .ref x0), (3, .int x3), (4, .ref x4), (5, .int x5), (6, .int x6)] [.int s0, .int s1, .ref s2] h =
    sm_vc h s2 1 (sm_cR (sm_C PP X 93 [.ref s2, .int (s1 - s0)] h) fun w1 h2 => sm_E PP X 97 82 [(0, .ref x0), (3, .int x3), (4, .ref x4), (5, .int x5), (6, .int x6)] (w1.toList ++ []) h2) :=
  (sm_blk PP X 97 [0, 5, 16, 39, 44, 52, 59, 78, 82, 102, 104] 59 78 _ _ _).trans rfl
set_option maxRecDepth 4000 in
theorem b97_82 (X : smX) (x0 : Nat) (x3 : Int32) (x4 : Nat) (x5 : Int32) (x6 : Int32) (s0 : Int32) (h : smH) : sm_E PP X 97 82 [(0, .ref x0), (3, .int x3), (4, .ref x4), (5, .int x5), (6, .int x6)] [.int s0] h =
    if s0 = 0 then (sm_E PP X 97 104 [(0, .ref x0), (3, .int x3), (4, .ref x4), (5, .int x5), (6, .int x6)] [] h) else if x5 = (-nI 9) then (sm_vc h x4 0 (sm_cR (sm_C PP X 77 [.ref x4, .int x6] h) fun w1 h2 => sm_E PP X 97 102 [(0, .ref x0), (3, .int x3), (4, .ref x4), (6, .int x6)] (w1.toList ++ []) h2)) else some (some (.int (-nI 9)), h) :=
  (sm_blk PP X 97 [0, 5, 16, 39, 44, 52, 59, 78, 82, 102, 104] 59 82 _ _ _).trans rfl
set_option maxRecDepth 4000 in
theorem b97_104 (X : smX) (x0 : Nat) (x3 : Int32) (x4 : Nat) (x5 : Int32) (x6 : Int32) (h : smH) : sm_E PP X 97 104 [(0, .ref x0), (3, .int x3), (4, .ref x4), (5, .int x5), (6, .int x6)] [] h =
    sm_E PP X 97 59 [(0, .ref x0), (3, .int x3), (4, .ref x4), (5, .int x5), (6, .int (x6 + (nI 1)))] [] h :=
  (sm_blk PP X 97 [0, 5, 16, 39, 44, 52, 59, 78, 82, 102, 104] 59 104 _ _ _).trans rfl
set_option maxRecDepth 4000 in
theorem b97_102 (X : smX) (x0 : Nat) (x3 : Int32) (x4 : Nat) (x6 : Int32) (s0 : Int32) (h : smH) : sm_E PP X 97 102 [(0, .ref x0), (3, .int x3), (4, .ref x4), (6, .int x6)] [.int s0] h =
    sm_E PP X 97 104 [(0, .ref x0), (3, .int x3), (4, .ref x4), (5, .int s0), (6, .int x6)] [] h :=
  (sm_blk PP X 97 [0, 5, 16, 39, 44, 52, 59, 78, 82, 102, 104] 59 102 _ _ _).trans rfl
/-! 98: WornSums.sure(I)I -/
theorem c98 (X : smX) (x0 : Nat) (x1 : Int32) (h : smH) : sm_C PP X 98 [.ref x0, .int x1] h = sm_E PP X 98 0 [(0, .ref x0), (1, .int x1)] [] h := rfl
set_option maxRecDepth 4000 in
theorem b98_0 (X : smX) (x0 : Nat) (x1 : Int32) (h : smH) : sm_E PP X 98 0 [(0, .ref x0), (1, .int x1)] [] h =
    sm_gR (sm_f h x0 7 1) fun v1 => sm_vc h v1 5 (sm_cR (sm_C PP X 48 [.ref v1, .int x1] h) fun w2 h3 => sm_E PP X 98 8 [(0, .ref x0), (1, .int x1)] (w2.toList ++ []) h3) :=
  (sm_blk PP X 98 [0, 8, 28, 50] 27 0 _ _ _).trans rfl
set_option maxRecDepth 4000 in
theorem b98_8 (X : smX) (x0 : Nat) (x1 : Int32) (s0 : Int32) (h : smH) : sm_E PP X 98 8 [(0, .ref x0), (1, .int x1)] [.int s0] h =
    if s0 = 0 then (some (some (.int (-nI 1)), h)) else sm_gR (sm_f h x0 7 6) fun v1 => sm_gR (sm_f h x0 7 1) fun v2 => sm_gR (sm_f h x0 7 5) fun v3 => sm_vc h v1 1 (sm_cR (sm_C PP X 68 [.ref v1, .ref v2, .ref v3] h) fun w4 h5 => sm_E PP X 98 28 [(0, .ref x0), (1, .int x1)] (w4.toList ++ []) h5) :=
  (sm_blk PP X 98 [0, 8, 28, 50] 27 8 _ _ _).trans rfl
set_option maxRecDepth 4000 in
theorem b98_28 (X : smX) (x0 : Nat) (x1 : Int32) (h : smH) : sm_E PP X 98 28 [(0, .ref x0), (1, .int x1)] [] h =
    sm_gR (sm_f h x0 7 6) fun v1 => sm_gR (sm_f h x0 7 1) fun v2 => sm_gI (sm_f h v2 5 2) fun v3 => sm_gR (sm_f h x0 7 1) fun v4 => sm_gI (sm_f h v4 5 4) fun v5 => sm_vc h v1 1 (sm_cR (sm_C PP X 97 [.ref v1, .int x1, .int v3, .int v5] h) fun w6 h7 => sm_E PP X 98 50 [] (w6.toList ++ []) h7) :=
  (sm_blk PP X 98 [0, 8, 28, 50] 27 28 _ _ _).trans rfl
set_option maxRecDepth 4000 in
theorem b98_50 (X : smX) (s0 : Int32) (h : smH) : sm_E PP X 98 50 [] [.int s0] h =
    some (some (.int s0), h) :=
  (sm_blk PP X 98 [0, 8, 28, 50] 27 50 _ _ _).trans rfl
/-! 99: WornSums$Findings.mostOfOneLetter(LWornSums$Agreeing;ILWornSums$NumberWords;)I -/
theorem c99 (X : smX) (x0 : Nat) (x1 : Nat) (x2 : Int32) (x3 : Nat) (h : smH) : sm_C PP X 99 [.ref x0, .ref x1, .int x2, .ref x3] h = sm_E PP X 99 0 [(0, .ref x0), (1, .ref x1), (2, .int x2), (3, .ref x3)] [] h := rfl
set_option maxRecDepth 4000 in
theorem b99_0 (X : smX) (x0 : Nat) (x1 : Nat) (x2 : Int32) (x3 : Nat) (h : smH) : sm_E PP X 99 0 [(0, .ref x0), (1, .ref x1), (2, .int x2), (3, .ref x3)] [] h =
    sm_gR (sm_f h x0 1 7) fun v1 => sm_cR (sm_C PP X 82 [.ref v1, .int (nI 0)] h) fun w2 h3 => sm_E PP X 99 8 [(0, .ref x0), (1, .ref x1), (2, .int x2), (3, .ref x3)] (w2.toList ++ []) h3 :=
  (sm_blk PP X 99 [0, 8, 14, 30, 34, 76] 47 0 _ _ _).trans rfl
set_option maxRecDepth 4000 in
theorem b99_8 (X : smX) (x0 : Nat) (x1 : Nat) (x2 : Int32) (x3 : Nat) (h : smH) : sm_E PP X 99 8 [(0, .ref x0), (1, .ref x1), (2, .int x2), (3, .ref x3)] [] h =
    sm_E PP X 99 14 [(0, .ref x0), (1, .ref x1), (2, .int x2), (3, .ref x3), (4, .int (nI 0)), (5, .int (nI 0))] [] h :=
  (sm_blk PP X 99 [0, 8, 14, 30, 34, 76] 47 8 _ _ _).trans rfl
set_option maxRecDepth 4000 in
theorem b99_14 (X : smX) (x0 : Nat) (x1 : Nat) (x2 : Int32) (x3 : Nat) (x4 : Int32) (x5 : Int32) (h : smH) : sm_E PP X 99 14 [(0, .ref x0), (1, .ref x1), (2, .int x2), (3, .ref x3), (4, .int x4), (5, .int x5)] [] h =
    sm_gI (sm_f h x1 0 2) fun v1 => if v1 ≤ x5 then (some (some (.int x4), h)) else sm_vc h x1 0 (sm_cR (sm_C PP X 77 [.ref x1, .int x5] h) fun w2 h3 => sm_E PP X 99 30 [(0, .ref x0), (1, .ref x1), (2, .int x2), (3, .ref x3), (4, .int x4), (5, .int x5)] (w2.toList ++ [.ref x3]) h3) :=
  (sm_blk PP X 99 [0, 8, 14, 30, 34, 76] 47 14 _ _ _).trans rfl
set_option maxRecDepth 4000 in
theorem b99_30 (X : smX) (x0 : Nat) (x1 : Nat) (x2 : Int32) (x3 : Nat) (x4 : Int32) (x5 : Int32) (s0 : Int32) (s1 : Nat) (h : smH) : sm_E PP X 99 30 [(0, .ref x0), (1, .ref x1), (2, .int x2), (3, .ref x3), (4, .int x4), (5, .int x5)] [.int s0, .ref s1] h =
    sm_vc h s1 3 (sm_cR (sm_C PP X 17 [.ref s1, .int s0, .int x2] h) fun w1 h2 => sm_E PP X 99 34 [(0, .ref x0), (1, .ref x1), (2, .int x2), (3, .ref x3), (4, .int x4), (5, .int x5)] (w1.toList ++ []) h2) :=
  (sm_blk PP X 99 [0, 8, 14, 30, 34, 76] 47 30 _ _ _).trans rfl
set_option maxRecDepth 4000 in
theorem b99_34 (X : smX) (x0 : Nat) (x1 : Nat) (x2 : Int32) (x3 : Nat) (x4 : Int32) (x5 : Int32) (s0 : Int32) (h : smH) : sm_E PP X 99 34 [(0, .ref x0), (1, .ref x1), (2, .int x2), (3, .ref x3), (4, .int x4), (5, .int x5)] [.int s0] h =
    if (s0 - (nI 97)) < 0 then (sm_E PP X 99 76 [(0, .ref x0), (1, .ref x1), (2, .int x2), (3, .ref x3), (4, .int x4), (5, .int x5)] [] h) else if (nI 26) ≤ (s0 - (nI 97)) then (sm_E PP X 99 76 [(0, .ref x0), (1, .ref x1), (2, .int x2), (3, .ref x3), (4, .int x4), (5, .int x5)] [] h) else sm_gR (sm_f h x0 1 7) fun v1 => sm_ld (sm_ar PP X h (.ref v1)) .int (s0 - (nI 97)) fun v2 => sm_st h v1 .int (s0 - (nI 97)) (v2 + (nI 1)) fun h3 => sm_gR (sm_f h3 x0 1 7) fun v4 => sm_ld (sm_ar PP X h3 (.ref v4)) .int (s0 - (nI 97)) fun v5 => sm_E PP X 99 76 [(0, .ref x0), (1, .ref x1), (2, .int x2), (3, .ref x3), (4, .int (if x4 < v5 then v5 else x4)), (5, .int x5)] [] h3 :=
  (sm_blk PP X 99 [0, 8, 14, 30, 34, 76] 47 34 _ _ _).trans rfl
set_option maxRecDepth 4000 in
theorem b99_76 (X : smX) (x0 : Nat) (x1 : Nat) (x2 : Int32) (x3 : Nat) (x4 : Int32) (x5 : Int32) (h : smH) : sm_E PP X 99 76 [(0, .ref x0), (1, .ref x1), (2, .int x2), (3, .ref x3), (4, .int x4), (5, .int x5)] [] h =
    sm_E PP X 99 14 [(0, .ref x0), (1, .ref x1), (2, .int x2), (3, .ref x3), (4, .int x4), (5, .int (x5 + (nI 1)))] [] h :=
  (sm_blk PP X 99 [0, 8, 14, 30, 34, 76] 47 76 _ _ _).trans rfl
/-! 100: WornSums$Findings.bestPlace(LWornSums$Row;LWornSums$Agreeing;LWornSums$NumberWords;)I -/
theorem c100 (X : smX) (x0 : Nat) (x1 : Nat) (x2 : Nat) (x3 : Nat) (h : smH) : sm_C PP X 100 [.ref x0, .ref x1, .ref x2, .ref x3] h = sm_E PP X 100 0 [(0, .ref x0), (1, .ref x1), (2, .ref x2), (3, .ref x3)] [] h := rfl
set_option maxRecDepth 4000 in
theorem b100_0 (X : smX) (x0 : Nat) (x1 : Nat) (x2 : Nat) (x3 : Nat) (h : smH) : sm_E PP X 100 0 [(0, .ref x0), (1, .ref x1), (2, .ref x2), (3, .ref x3)] [] h =
    sm_E PP X 100 10 [(0, .ref x0), (1, .ref x1), (2, .ref x2), (3, .ref x3), (4, .int (-nI 9)), (5, .int (nI 0)), (6, .int (nI 0))] [] h :=
  (sm_blk PP X 100 [0, 10, 25, 38, 54, 62] 37 0 _ _ _).trans rfl
set_option maxRecDepth 4000 in
theorem b100_10 (X : smX) (x0 : Nat) (x1 : Nat) (x2 : Nat) (x3 : Nat) (x4 : Int32) (x5 : Int32) (x6 : Int32) (h : smH) : sm_E PP X 100 10 [(0, .ref x0), (1, .ref x1), (2, .ref x2), (3, .ref x3), (4, .int x4), (5, .int x5), (6, .int x6)] [] h =
    sm_gI (sm_f h x1 4 1) fun v1 => if v1 ≤ x6 then (some (some (.int x4), h)) else sm_vc h x1 4 (sm_cR (sm_C PP X 37 [.ref x1, .int x6] h) fun w2 h3 => sm_E PP X 100 25 [(0, .ref x0), (1, .ref x1), (2, .ref x2), (3, .ref x3), (4, .int x4), (5, .int x5), (6, .int x6)] (w2.toList ++ []) h3) :=
  (sm_blk PP X 100 [0, 10, 25, 38, 54, 62] 37 10 _ _ _).trans rfl
set_option maxRecDepth 4000 in
theorem b100_25 (X : smX) (x0 : Nat) (x1 : Nat) (x2 : Nat) (x3 : Nat) (x4 : Int32) (x5 : Int32) (x6 : Int32) (s0 : Int32) (h : smH) : sm_E PP X 100 25 [(0, .ref x0), (1, .ref x1), (2, .ref x2), (3, .ref x3), (4, .int x4), (5, .int x5), (6, .int x6)] [.int s0] h =
    if s0 = (nI 63) then (sm_vc h x0 1 (sm_cR (sm_C PP X 99 [.ref x0, .ref x2, .int x6, .ref x3] h) fun w1 h2 => sm_E PP X 100 38 [(0, .ref x0), (1, .ref x1), (2, .ref x2), (3, .ref x3), (4, .int x4), (5, .int x5), (6, .int x6)] (w1.toList ++ []) h2)) else sm_E PP X 100 62 [(0, .ref x0), (1, .ref x1), (2, .ref x2), (3, .ref x3), (4, .int x4), (5, .int x5), (6, .int x6)] [] h :=
  (sm_blk PP X 100 [0, 10, 25, 38, 54, 62] 37 25 _ _ _).trans rfl
set_option maxRecDepth 4000 in
theorem b100_38 (X : smX) (x0 : Nat) (x1 : Nat) (x2 : Nat) (x3 : Nat) (x4 : Int32) (x5 : Int32) (x6 : Int32) (s0 : Int32) (h : smH) : sm_E PP X 100 38 [(0, .ref x0), (1, .ref x1), (2, .ref x2), (3, .ref x3), (4, .int x4), (5, .int x5), (6, .int x6)] [.int s0] h =
    if x4 = (-nI 9) then (sm_E PP X 100 54 [(0, .ref x0), (1, .ref x1), (2, .ref x2), (3, .ref x3), (6, .int x6), (7, .int s0)] [] h) else if x5 ≤ s0 then (sm_E PP X 100 62 [(0, .ref x0), (1, .ref x1), (2, .ref x2), (3, .ref x3), (4, .int x4), (5, .int x5), (6, .int x6)] [] h) else sm_E PP X 100 54 [(0, .ref x0), (1, .ref x1), (2, .ref x2), (3, .ref x3), (6, .int x6), (7, .int s0)] [] h :=
  (sm_blk PP X 100 [0, 10, 25, 38, 54, 62] 37 38 _ _ _).trans rfl
set_option maxRecDepth 4000 in
theorem b100_62 (X : smX) (x0 : Nat) (x1 : Nat) (x2 : Nat) (x3 : Nat) (x4 : Int32) (x5 : Int32) (x6 : Int32) (h : smH) : sm_E PP X 100 62 [(0, .ref x0), (1, .ref x1), (2, .ref x2), (3, .ref x3), (4, .int x4), (5, .int x5), (6, .int x6)] [] h =
    sm_E PP X 100 10 [(0, .ref x0), (1, .ref x1), (2, .ref x2), (3, .ref x3), (4, .int x4), (5, .int x5), (6, .int (x6 + (nI 1)))] [] h :=
  (sm_blk PP X 100 [0, 10, 25, 38, 54, 62] 37 62 _ _ _).trans rfl
set_option maxRecDepth 4000 in
theorem b100_54 (X : smX) (x0 : Nat) (x1 : Nat) (x2 : Nat) (x3 : Nat) (x6 : Int32) (x7 : Int32) (h : smH) : sm_E PP X 100 54 [(0, .ref x0), (1, .ref x1), (2, .ref x2), (3, .ref x3), (6, .int x6), (7, .int x7)] [] h =
    sm_E PP X 100 62 [(0, .ref x0), (1, .ref x1), (2, .ref x2), (3, .ref x3), (4, .int x6), (5, .int x7), (6, .int x6)] [] h :=
  (sm_blk PP X 100 [0, 10, 25, 38, 54, 62] 37 54 _ _ _).trans rfl
/-! 101: WornSums.look(I)I -/
theorem c101 (X : smX) (x0 : Nat) (x1 : Int32) (h : smH) : sm_C PP X 101 [.ref x0, .int x1] h = sm_E PP X 101 0 [(0, .ref x0), (1, .int x1)] [] h := rfl
set_option maxRecDepth 4000 in
theorem b101_0 (X : smX) (x0 : Nat) (x1 : Int32) (h : smH) : sm_E PP X 101 0 [(0, .ref x0), (1, .int x1)] [] h =
    sm_gR (sm_f h x0 7 1) fun v1 => sm_vc h v1 5 (sm_cR (sm_C PP X 51 [.ref v1, .int x1, .int (nI 0)] h) fun w2 h3 => sm_E PP X 101 9 [(0, .ref x0), (1, .int x1)] (w2.toList ++ []) h3) :=
  (sm_blk PP X 101 [0, 9, 21, 48] 30 0 _ _ _).trans rfl
set_option maxRecDepth 4000 in
theorem b101_9 (X : smX) (x0 : Nat) (x1 : Int32) (s0 : Nat) (h : smH) : sm_E PP X 101 9 [(0, .ref x0), (1, .int x1)] [.ref s0] h =
    sm_vc h x0 7 (sm_cR (sm_C PP X 70 [.ref x0, .int x1] h) fun w1 h2 => sm_E PP X 101 21 [(0, .ref x0), (2, .ref s0)] (w1.toList ++ []) h2) :=
  (sm_blk PP X 101 [0, 9, 21, 48] 30 9 _ _ _).trans rfl
set_option maxRecDepth 4000 in
theorem b101_9_1 (X : smX) (x0 : Nat) (x1 : Int32) (h : smH) : sm_E PP X 101 9 [(0, .ref x0), (1, .int x1)] [.null] h =
    some (some (.int (-nI 1)), h) :=
  (sm_blk PP X 101 [0, 9, 21, 48] 30 9 _ _ _).trans rfl
set_option maxRecDepth 4000 in
theorem b101_21 (X : smX) (x0 : Nat) (x2 : Nat) (s0 : Nat) (h : smH) : sm_E PP X 101 21 [(0, .ref x0), (2, .ref x2)] [.ref s0] h =
    sm_gI (sm_f h s0 0 2) fun v1 => if (nI 1) < v1 then (sm_gR (sm_f h x0 7 6) fun v2 => sm_gR (sm_f h x0 7 5) fun v3 => sm_vc h v2 1 (sm_cR (sm_C PP X 100 [.ref v2, .ref x2, .ref s0, .ref v3] h) fun w4 h5 => sm_E PP X 101 48 [] (w4.toList ++ []) h5)) else sm_E PP X 101 48 [] [.int (-nI 9)] h :=
  (sm_blk PP X 101 [0, 9, 21, 48] 30 21 _ _ _).trans rfl
set_option maxRecDepth 4000 in
theorem b101_48 (X : smX) (s0 : Int32) (h : smH) : sm_E PP X 101 48 [] [.int s0] h =
    some (some (.int s0), h) :=
  (sm_blk PP X 101 [0, 9, 21, 48] 30 48 _ _ _).trans rfl
/-! 102: WornSums.keep(I)I -/
theorem c102 (X : smX) (x0 : Nat) (x1 : Int32) (h : smH) : sm_C PP X 102 [.ref x0, .int x1] h = sm_E PP X 102 0 [(0, .ref x0), (1, .int x1)] [] h := rfl
set_option maxRecDepth 4000 in
theorem b102_0 (X : smX) (x0 : Nat) (x1 : Int32) (h : smH) : sm_E PP X 102 0 [(0, .ref x0), (1, .int x1)] [] h =
    if x1 < 0 then (sm_E PP X 102 9 [] [] h) else if x1 < (nI 2) then (sm_gR (sm_f h x0 7 3) fun v1 => sm_ldR (sm_ar PP X h (.ref v1)) x1 fun v2 => sm_gR (sm_f h x0 7 1) fun v3 => sm_vc h v2 5 (sm_cR (sm_C PP X 40 [.ref v2, .ref v3] h) fun w4 h5 => sm_E PP X 102 24 [(0, .ref x0), (1, .int x1)] (w4.toList ++ []) h5)) else sm_E PP X 102 9 [] [] h :=
  (sm_blk PP X 102 [0, 9, 24] 25 0 _ _ _).trans rfl
set_option maxRecDepth 4000 in
theorem b102_9 (X : smX) (h : smH) : sm_E PP X 102 9 [] [] h =
    some (some (.int (-nI 1)), h) :=
  (sm_blk PP X 102 [0, 9, 24] 25 9 _ _ _).trans rfl
set_option maxRecDepth 4000 in
theorem b102_24 (X : smX) (x0 : Nat) (x1 : Int32) (h : smH) : sm_E PP X 102 24 [(0, .ref x0), (1, .int x1)] [] h =
    sm_gR (sm_f h x0 7 4) fun v1 => sm_st h v1 .boolean x1 (vp_nar .boolean (nI 1)) fun h2 => sm_gR (sm_f h2 x0 7 1) fun v3 => sm_gI (sm_f h2 v3 5 2) fun v4 => some (some (.int v4), h2) :=
  (sm_blk PP X 102 [0, 9, 24] 25 24 _ _ _).trans rfl
/-! 103: WornSums.back(I)I -/
theorem c103 (X : smX) (x0 : Nat) (x1 : Int32) (h : smH) : sm_C PP X 103 [.ref x0, .int x1] h = sm_E PP X 103 0 [(0, .ref x0), (1, .int x1)] [] h := rfl
set_option maxRecDepth 4000 in
theorem b103_0 (X : smX) (x0 : Nat) (x1 : Int32) (h : smH) : sm_E PP X 103 0 [(0, .ref x0), (1, .int x1)] [] h =
    if x1 < 0 then (sm_E PP X 103 9 [] [] h) else if x1 < (nI 2) then (sm_gR (sm_f h x0 7 4) fun v1 => sm_ld (sm_ar PP X h (.ref v1)) .boolean x1 fun v2 => if v2 = 0 then (some (some (.int (-nI 2)), h)) else sm_gR (sm_f h x0 7 1) fun v3 => sm_gR (sm_f h x0 7 3) fun v4 => sm_ldR (sm_ar PP X h (.ref v4)) x1 fun v5 => sm_vc h v3 5 (sm_cR (sm_C PP X 40 [.ref v3, .ref v5] h) fun w6 h7 => sm_E PP X 103 36 [(0, .ref x0)] (w6.toList ++ []) h7)) else sm_E PP X 103 9 [] [] h :=
  (sm_blk PP X 103 [0, 9, 36, 51] 34 0 _ _ _).trans rfl
set_option maxRecDepth 4000 in
theorem b103_9 (X : smX) (h : smH) : sm_E PP X 103 9 [] [] h =
    some (some (.int (-nI 1)), h) :=
  (sm_blk PP X 103 [0, 9, 36, 51] 34 9 _ _ _).trans rfl
set_option maxRecDepth 4000 in
theorem b103_36 (X : smX) (x0 : Nat) (h : smH) : sm_E PP X 103 36 [(0, .ref x0)] [] h =
    sm_gR (sm_f h x0 7 2) fun v1 => sm_fP h v1 2 2 (.int (nI 0)) fun h2 => sm_gR (sm_f h2 x0 7 6) fun v3 => sm_vc h2 v3 1 (sm_cR (sm_C PP X 42 [.ref v3] h2) fun w4 h5 => sm_E PP X 103 51 [(0, .ref x0)] (w4.toList ++ []) h5) :=
  (sm_blk PP X 103 [0, 9, 36, 51] 34 36 _ _ _).trans rfl
set_option maxRecDepth 4000 in
theorem b103_51 (X : smX) (x0 : Nat) (h : smH) : sm_E PP X 103 51 [(0, .ref x0)] [] h =
    sm_gR (sm_f h x0 7 1) fun v1 => sm_gI (sm_f h v1 5 2) fun v2 => some (some (.int v2), h) :=
  (sm_blk PP X 103 [0, 9, 36, 51] 34 51 _ _ _).trans rfl
/-! 104: WornSums$Sheet.wornInAll()I -/
theorem c104 (X : smX) (x0 : Nat) (h : smH) : sm_C PP X 104 [.ref x0] h = sm_E PP X 104 0 [(0, .ref x0)] [] h := rfl
set_option maxRecDepth 4000 in
theorem b104_0 (X : smX) (x0 : Nat) (h : smH) : sm_E PP X 104 0 [(0, .ref x0)] [] h =
    sm_E PP X 104 4 [(0, .ref x0), (1, .int (nI 0)), (2, .int (nI 0))] [] h :=
  (sm_blk PP X 104 [0, 4, 18] 20 0 _ _ _).trans rfl
set_option maxRecDepth 4000 in
theorem b104_4 (X : smX) (x0 : Nat) (x1 : Int32) (x2 : Int32) (h : smH) : sm_E PP X 104 4 [(0, .ref x0), (1, .int x1), (2, .int x2)] [] h =
    sm_gI (sm_f h x0 5 2) fun v1 => if v1 ≤ x2 then (some (some (.int x1), h)) else sm_vc h x0 5 (sm_cR (sm_C PP X 55 [.ref x0, .int x2] h) fun w2 h3 => sm_E PP X 104 18 [(0, .ref x0), (2, .int x2)] (w2.toList ++ [.int x1]) h3) :=
  (sm_blk PP X 104 [0, 4, 18] 20 4 _ _ _).trans rfl
set_option maxRecDepth 4000 in
theorem b104_18 (X : smX) (x0 : Nat) (x2 : Int32) (s0 : Int32) (s1 : Int32) (h : smH) : sm_E PP X 104 18 [(0, .ref x0), (2, .int x2)] [.int s0, .int s1] h =
    sm_E PP X 104 4 [(0, .ref x0), (1, .int (s1 + s0)), (2, .int (x2 + (nI 1)))] [] h :=
  (sm_blk PP X 104 [0, 4, 18] 20 18 _ _ _).trans rfl
/-! 105: WornSums.count(I)I -/
theorem c105 (X : smX) (x0 : Nat) (x1 : Int32) (h : smH) : sm_C PP X 105 [.ref x0, .int x1] h = sm_E PP X 105 0 [(0, .ref x0), (1, .int x1)] [] h := rfl
set_option maxRecDepth 4000 in
theorem b105_0 (X : smX) (x0 : Nat) (x1 : Int32) (h : smH) : sm_E PP X 105 0 [(0, .ref x0), (1, .int x1)] [] h =
    sm_E PP X 105 1 [(0, .ref x0), (1, .int x1)] [.int x1] h :=
  (sm_blk PP X 105 [0, 1, 44, 52, 67, 81, 82, 90, 98, 105, 106, 114, 122] 44 0 _ _ _).trans rfl
set_option maxRecDepth 4000 in
theorem b105_1 (X : smX) (x0 : Nat) (x1 : Int32) (s0 : Int32) (h : smH) : sm_E PP X 105 1 [(0, .ref x0), (1, .int x1)] [.int s0] h =
    if s0.toInt < 0 ∨ 6 < s0.toInt then (sm_E PP X 105 122 [] [] h) else sm_sw (#[43, 51, 81, 89, 97, 105, 113] : Array Int)[(s0.toInt - 0).toNat]? fun o1 => sm_E PP X 105 (sm_tg 1 o1) (sm_tr PP 105 (sm_tg 1 o1) [(0, .ref x0), (1, .int x1)]) [] h :=
  (sm_blk PP X 105 [0, 1, 44, 52, 67, 81, 82, 90, 98, 105, 106, 114, 122] 0 1 _ _ _).trans rfl
set_option maxRecDepth 4000 in
theorem b105_44 (X : smX) (x0 : Nat) (h : smH) : sm_E PP X 105 44 [(0, .ref x0)] [] h =
    sm_gR (sm_f h x0 7 1) fun v1 => sm_gI (sm_f h v1 5 2) fun v2 => some (some (.int v2), h) :=
  (sm_blk PP X 105 [0, 1, 44, 52, 67, 81, 82, 90, 98, 105, 106, 114, 122] 44 44 _ _ _).trans rfl
set_option maxRecDepth 4000 in
theorem b105_52 (X : smX) (x0 : Nat) (h : smH) : sm_E PP X 105 52 [(0, .ref x0)] [] h =
    sm_gR (sm_f h x0 7 6) fun v1 => sm_gR (sm_f h x0 7 1) fun v2 => sm_gR (sm_f h x0 7 5) fun v3 => sm_vc h v1 1 (sm_cR (sm_C PP X 68 [.ref v1, .ref v2, .ref v3] h) fun w4 h5 => sm_E PP X 105 67 [(0, .ref x0)] (w4.toList ++ []) h5) :=
  (sm_blk PP X 105 [0, 1, 44, 52, 67, 81, 82, 90, 98, 105, 106, 114, 122] 44 52 _ _ _).trans rfl
set_option maxRecDepth 4000 in
theorem b105_82 (X : smX) (x0 : Nat) (h : smH) : sm_E PP X 105 82 [(0, .ref x0)] [] h =
    sm_gR (sm_f h x0 7 1) fun v1 => sm_gI (sm_f h v1 5 3) fun v2 => some (some (.int v2), h) :=
  (sm_blk PP X 105 [0, 1, 44, 52, 67, 81, 82, 90, 98, 105, 106, 114, 122] 44 82 _ _ _).trans rfl
set_option maxRecDepth 4000 in
theorem b105_90 (X : smX) (x0 : Nat) (h : smH) : sm_E PP X 105 90 [(0, .ref x0)] [] h =
    sm_gR (sm_f h x0 7 1) fun v1 => sm_gI (sm_f h v1 5 4) fun v2 => some (some (.int v2), h) :=
  (sm_blk PP X 105 [0, 1, 44, 52, 67, 81, 82, 90, 98, 105, 106, 114, 122] 44 90 _ _ _).trans rfl
set_option maxRecDepth 4000 in
theorem b105_98 (X : smX) (x0 : Nat) (h : smH) : sm_E PP X 105 98 [(0, .ref x0)] [] h =
    sm_gR (sm_f h x0 7 1) fun v1 => sm_vc h v1 5 (sm_cR (sm_C PP X 104 [.ref v1] h) fun w2 h3 => sm_E PP X 105 105 [] (w2.toList ++ []) h3) :=
  (sm_blk PP X 105 [0, 1, 44, 52, 67, 81, 82, 90, 98, 105, 106, 114, 122] 44 98 _ _ _).trans rfl
set_option maxRecDepth 4000 in
theorem b105_106 (X : smX) (x0 : Nat) (h : smH) : sm_E PP X 105 106 [(0, .ref x0)] [] h =
    sm_gR (sm_f h x0 7 0) fun v1 => sm_gI (sm_f h v1 6 1) fun v2 => some (some (.int v2), h) :=
  (sm_blk PP X 105 [0, 1, 44, 52, 67, 81, 82, 90, 98, 105, 106, 114, 122] 44 106 _ _ _).trans rfl
set_option maxRecDepth 4000 in
theorem b105_114 (X : smX) (x0 : Nat) (h : smH) : sm_E PP X 105 114 [(0, .ref x0)] [] h =
    sm_gR (sm_f h x0 7 2) fun v1 => sm_gI (sm_f h v1 2 2) fun v2 => some (some (.int v2), h) :=
  (sm_blk PP X 105 [0, 1, 44, 52, 67, 81, 82, 90, 98, 105, 106, 114, 122] 44 114 _ _ _).trans rfl
set_option maxRecDepth 4000 in
theorem b105_122 (X : smX) (h : smH) : sm_E PP X 105 122 [] [] h =
    some (some (.int (-nI 1)), h) :=
  (sm_blk PP X 105 [0, 1, 44, 52, 67, 81, 82, 90, 98, 105, 106, 114, 122] 44 122 _ _ _).trans rfl
set_option maxRecDepth 4000 in
theorem b105_67 (X : smX) (x0 : Nat) (h : smH) : sm_E PP X 105 67 [(0, .ref x0)] [] h =
    sm_gR (sm_f h x0 7 6) fun v1 => sm_gR (sm_f h x0 7 1) fun v2 => sm_gI (sm_f h v2 5 2) fun v3 => sm_vc h v1 1 (sm_cR (sm_C PP X 80 [.ref v1, .int v3] h) fun w4 h5 => sm_E PP X 105 81 [] (w4.toList ++ []) h5) :=
  (sm_blk PP X 105 [0, 1, 44, 52, 67, 81, 82, 90, 98, 105, 106, 114, 122] 44 67 _ _ _).trans rfl
set_option maxRecDepth 4000 in
theorem b105_105 (X : smX) (s0 : Int32) (h : smH) : sm_E PP X 105 105 [] [.int s0] h =
    some (some (.int s0), h) :=
  (sm_blk PP X 105 [0, 1, 44, 52, 67, 81, 82, 90, 98, 105, 106, 114, 122] 44 105 _ _ _).trans rfl
set_option maxRecDepth 4000 in
theorem b105_81 (X : smX) (s0 : Int32) (h : smH) : sm_E PP X 105 81 [] [.int s0] h =
    some (some (.int s0), h) :=
  (sm_blk PP X 105 [0, 1, 44, 52, 67, 81, 82, 90, 98, 105, 106, 114, 122] 44 81 _ _ _).trans rfl
