/-! blocks, printed by wip/whole/mkblocks.py -/
/-! 107: WornSumsLaw.cell([II)I -/
theorem c107 (X : smX) (x0 : Nat) (x1 : Int32) (h : smH) : sm_C PP X 107 [.retAddr x0, .int x1] h = sm_E PP X 107 0 [(0, .retAddr x0), (1, .int x1)] [] h := rfl
set_option maxRecDepth 4000 in
theorem b107_0 (X : smX) (x0 : Nat) (x1 : Int32) (h : smH) : sm_E PP X 107 0 [(0, .retAddr x0), (1, .int x1)] [] h =
    sm_al (sm_ar PP X h (.retAddr x0)) fun n1 => if (nI n1) ≤ x1 then (sm_E PP X 107 24 [] [.int (((nI 625341585) * (x1 + (nI 631))) + (nI 463))] h) else sm_ld (sm_ar PP X h (.retAddr x0)) .int x1 fun v2 => sm_E PP X 107 24 [] [.int v2] h :=
  (sm_blk PP X 107 [0, 24] 18 0 _ _ _).trans rfl
set_option maxRecDepth 4000 in
theorem b107_24 (X : smX) (s0 : Int32) (h : smH) : sm_E PP X 107 24 [] [.int s0] h =
    some (some (.int s0), h) :=
  (sm_blk PP X 107 [0, 24] 18 24 _ _ _).trans rfl
/-! 108: WornSumsLaw.low(II)I -/
theorem c108 (X : smX) (x0 : Int32) (x1 : Int32) (h : smH) : sm_C PP X 108 [.int x0, .int x1] h = sm_E PP X 108 0 [(0, .int x0), (1, .int x1)] [] h := rfl
set_option maxRecDepth 4000 in
theorem b108_0 (X : smX) (x0 : Int32) (x1 : Int32) (h : smH) : sm_E PP X 108 0 [(0, .int x0), (1, .int x1)] [] h =
    if x1 = 0 then none else some (some (.int ((x0 &&& (nI 2147483647)) - (x0 &&& (nI 2147483647)) / x1 * x1)), h) :=
  (sm_blk PP X 108 [0] 8 0 _ _ _).trans rfl
/-! 109: WornSumsLaw.whole(LWornSums;)J -/
theorem c109 (X : smX) (x0 : Nat) (h : smH) : sm_C PP X 109 [.ref x0] h = sm_E PP X 109 0 [(0, .ref x0)] [] h := rfl
set_option maxRecDepth 4000 in
theorem b109_0 (X : smX) (x0 : Nat) (h : smH) : sm_E PP X 109 0 [(0, .ref x0)] [] h =
    sm_E PP X 109 6 [(0, .ref x0), (1, .long (lN 83)), (3, .int (nI 0))] [] h :=
  (sm_blk PP X 109 [0, 6, 21, 32, 38, 44, 57, 72, 93] 68 0 _ _ _).trans rfl
set_option maxRecDepth 4000 in
theorem b109_6 (X : smX) (x0 : Nat) (x1 : Int64) (x3 : Int32) (h : smH) : sm_E PP X 109 6 [(0, .ref x0), (1, .long x1), (3, .int x3)] [] h =
    if (nI 5) ≤ x3 then (sm_E PP X 109 32 [(0, .ref x0), (1, .long x1), (3, .int (nI 0))] [] h) else sm_vc h x0 7 (sm_cR (sm_C PP X 105 [.ref x0, .int x3] h) fun w1 h2 => sm_E PP X 109 21 [(0, .ref x0), (3, .int x3)] (w1.toList ++ [.long ((lN 31) * x1)]) h2) :=
  (sm_blk PP X 109 [0, 6, 21, 32, 38, 44, 57, 72, 93] 68 6 _ _ _).trans rfl
set_option maxRecDepth 4000 in
theorem b109_32 (X : smX) (x0 : Nat) (x1 : Int64) (x3 : Int32) (h : smH) : sm_E PP X 109 32 [(0, .ref x0), (1, .long x1), (3, .int x3)] [] h =
    sm_vc h x0 7 (sm_cR (sm_C PP X 105 [.ref x0, .int (nI 0)] h) fun w1 h2 => sm_E PP X 109 38 [(0, .ref x0), (1, .long x1), (3, .int x3)] (w1.toList ++ [.int x3]) h2) :=
  (sm_blk PP X 109 [0, 6, 21, 32, 38, 44, 57, 72, 93] 68 32 _ _ _).trans rfl
set_option maxRecDepth 4000 in
theorem b109_21 (X : smX) (x0 : Nat) (x3 : Int32) (s0 : Int32) (s1 : Int64) (h : smH) : sm_E PP X 109 21 [(0, .ref x0), (3, .int x3)] [.int s0, .long s1] h =
    sm_E PP X 109 6 [(0, .ref x0), (1, .long (s1 + s0.toInt64)), (3, .int (x3 + (nI 1)))] [] h :=
  (sm_blk PP X 109 [0, 6, 21, 32, 38, 44, 57, 72, 93] 68 21 _ _ _).trans rfl
set_option maxRecDepth 4000 in
theorem b109_38 (X : smX) (x0 : Nat) (x1 : Int64) (x3 : Int32) (s0 : Int32) (s1 : Int32) (h : smH) : sm_E PP X 109 38 [(0, .ref x0), (1, .long x1), (3, .int x3)] [.int s0, .int s1] h =
    if s0 ≤ s1 then (some (some (.long x1), h)) else sm_E PP X 109 44 [(0, .ref x0), (1, .long x1), (3, .int x3), (4, .int (nI 0))] [] h :=
  (sm_blk PP X 109 [0, 6, 21, 32, 38, 44, 57, 72, 93] 68 38 _ _ _).trans rfl
set_option maxRecDepth 4000 in
theorem b109_44 (X : smX) (x0 : Nat) (x1 : Int64) (x3 : Int32) (x4 : Int32) (h : smH) : sm_E PP X 109 44 [(0, .ref x0), (1, .long x1), (3, .int x3), (4, .int x4)] [] h =
    if (nI 2) ≤ x4 then (sm_E PP X 109 32 [(0, .ref x0), (1, .long x1), (3, .int (x3 + (nI 1)))] [] h) else sm_vc h x0 7 (sm_cR (sm_C PP X 71 [.ref x0, .int x3, .int x4] h) fun w1 h2 => sm_E PP X 109 57 [(0, .ref x0), (1, .long x1), (3, .int x3), (4, .int x4)] (w1.toList ++ []) h2) :=
  (sm_blk PP X 109 [0, 6, 21, 32, 38, 44, 57, 72, 93] 68 44 _ _ _).trans rfl
set_option maxRecDepth 4000 in
theorem b109_57 (X : smX) (x0 : Nat) (x1 : Int64) (x3 : Int32) (x4 : Int32) (s0 : Int32) (h : smH) : sm_E PP X 109 57 [(0, .ref x0), (1, .long x1), (3, .int x3), (4, .int x4)] [.int s0] h =
    sm_E PP X 109 72 [(0, .ref x0), (1, .long (((lN 31) * x1) + s0.toInt64)), (3, .int x3), (4, .int x4), (5, .int s0), (6, .int (nI 0))] [] h :=
  (sm_blk PP X 109 [0, 6, 21, 32, 38, 44, 57, 72, 93] 68 57 _ _ _).trans rfl
set_option maxRecDepth 4000 in
theorem b109_72 (X : smX) (x0 : Nat) (x1 : Int64) (x3 : Int32) (x4 : Int32) (x5 : Int32) (x6 : Int32) (h : smH) : sm_E PP X 109 72 [(0, .ref x0), (1, .long x1), (3, .int x3), (4, .int x4), (5, .int x5), (6, .int x6)] [] h =
    if x5 ≤ x6 then (sm_E PP X 109 44 [(0, .ref x0), (1, .long x1), (3, .int x3), (4, .int (x4 + (nI 1)))] [] h) else sm_vc h x0 7 (sm_cR (sm_C PP X 72 [.ref x0, .int x3, .int x4, .int x6] h) fun w1 h2 => sm_E PP X 109 93 [(0, .ref x0), (3, .int x3), (4, .int x4), (5, .int x5), (6, .int x6)] (w1.toList ++ [.long ((lN 31) * x1)]) h2) :=
  (sm_blk PP X 109 [0, 6, 21, 32, 38, 44, 57, 72, 93] 68 72 _ _ _).trans rfl
set_option maxRecDepth 4000 in
theorem b109_93 (X : smX) (x0 : Nat) (x3 : Int32) (x4 : Int32) (x5 : Int32) (x6 : Int32) (s0 : Int32) (s1 : Int64) (h : smH) : sm_E PP X 109 93 [(0, .ref x0), (3, .int x3), (4, .int x4), (5, .int x5), (6, .int x6)] [.int s0, .long s1] h =
    sm_E PP X 109 72 [(0, .ref x0), (1, .long (s1 + s0.toInt64)), (3, .int x3), (4, .int x4), (5, .int x5), (6, .int (x6 + (nI 1)))] [] h :=
  (sm_blk PP X 109 [0, 6, 21, 32, 38, 44, 57, 72, 93] 68 93 _ _ _).trans rfl
/-! 110: WornSumsLaw.entries(LWornSums;)Z -/
theorem c110 (X : smX) (x0 : Nat) (h : smH) : sm_C PP X 110 [.ref x0] h = sm_E PP X 110 0 [(0, .ref x0)] [] h := rfl
set_option maxRecDepth 4000 in
theorem b110_0 (X : smX) (x0 : Nat) (h : smH) : sm_E PP X 110 0 [(0, .ref x0)] [] h =
    sm_E PP X 110 6 [(0, .ref x0), (1, .int (nI 0)), (2, .int (nI 0)), (3, .int (nI 0))] [] h :=
  (sm_blk PP X 110 [0, 6, 12, 21, 32, 47, 57, 80, 84, 85, 122, 130, 134, 136, 155, 165, 178, 189, 213, 218, 220, 231, 240, 253, 262, 270, 271] 152 0 _ _ _).trans rfl
set_option maxRecDepth 4000 in
theorem b110_6 (X : smX) (x0 : Nat) (x1 : Int32) (x2 : Int32) (x3 : Int32) (h : smH) : sm_E PP X 110 6 [(0, .ref x0), (1, .int x1), (2, .int x2), (3, .int x3)] [] h =
    sm_vc h x0 7 (sm_cR (sm_C PP X 105 [.ref x0, .int (nI 0)] h) fun w1 h2 => sm_E PP X 110 12 [(0, .ref x0), (1, .int x1), (2, .int x2), (3, .int x3)] (w1.toList ++ [.int x3]) h2) :=
  (sm_blk PP X 110 [0, 6, 12, 21, 32, 47, 57, 80, 84, 85, 122, 130, 134, 136, 155, 165, 178, 189, 213, 218, 220, 231, 240, 253, 262, 270, 271] 152 6 _ _ _).trans rfl
set_option maxRecDepth 4000 in
theorem b110_12 (X : smX) (x0 : Nat) (x1 : Int32) (x2 : Int32) (x3 : Int32) (s0 : Int32) (s1 : Int32) (h : smH) : sm_E PP X 110 12 [(0, .ref x0), (1, .int x1), (2, .int x2), (3, .int x3)] [.int s0, .int s1] h =
    if s0 ≤ s1 then (sm_vc h x0 7 (sm_cR (sm_C PP X 105 [.ref x0, .int (nI 1)] h) fun w1 h2 => sm_E PP X 110 253 [(0, .ref x0), (1, .int x1), (2, .int x2)] (w1.toList ++ []) h2)) else sm_vc h x0 7 (sm_cR (sm_C PP X 71 [.ref x0, .int x3, .int (nI 5)] h) fun w3 h4 => sm_E PP X 110 21 [(0, .ref x0), (1, .int x1), (2, .int x2), (3, .int x3)] (w3.toList ++ []) h4) :=
  (sm_blk PP X 110 [0, 6, 12, 21, 32, 47, 57, 80, 84, 85, 122, 130, 134, 136, 155, 165, 178, 189, 213, 218, 220, 231, 240, 253, 262, 270, 271] 152 12 _ _ _).trans rfl
set_option maxRecDepth 4000 in
theorem b110_253 (X : smX) (x0 : Nat) (x1 : Int32) (x2 : Int32) (s0 : Int32) (h : smH) : sm_E PP X 110 253 [(0, .ref x0), (1, .int x1), (2, .int x2)] [.int s0] h =
    if s0 = x1 then (sm_vc h x0 7 (sm_cR (sm_C PP X 105 [.ref x0, .int (nI 4)] h) fun w1 h2 => sm_E PP X 110 262 [(2, .int x2)] (w1.toList ++ []) h2)) else sm_E PP X 110 270 [] [] h :=
  (sm_blk PP X 110 [0, 6, 12, 21, 32, 47, 57, 80, 84, 85, 122, 130, 134, 136, 155, 165, 178, 189, 213, 218, 220, 231, 240, 253, 262, 270, 271] 152 253 _ _ _).trans rfl
set_option maxRecDepth 4000 in
theorem b110_21 (X : smX) (x0 : Nat) (x1 : Int32) (x2 : Int32) (x3 : Int32) (s0 : Int32) (h : smH) : sm_E PP X 110 21 [(0, .ref x0), (1, .int x1), (2, .int x2), (3, .int x3)] [.int s0] h =
    sm_E PP X 110 32 [(0, .ref x0), (1, .int x1), (2, .int x2), (3, .int x3), (4, .int s0), (5, .int (-nI 1)), (6, .int (-nI 1)), (7, .int (nI 0))] [] h :=
  (sm_blk PP X 110 [0, 6, 12, 21, 32, 47, 57, 80, 84, 85, 122, 130, 134, 136, 155, 165, 178, 189, 213, 218, 220, 231, 240, 253, 262, 270, 271] 152 21 _ _ _).trans rfl
set_option maxRecDepth 4000 in
theorem b110_262 (X : smX) (x2 : Int32) (s0 : Int32) (h : smH) : sm_E PP X 110 262 [(2, .int x2)] [.int s0] h =
    if s0 = x2 then (sm_E PP X 110 271 [] [.int (nI 1)] h) else sm_E PP X 110 270 [] [] h :=
  (sm_blk PP X 110 [0, 6, 12, 21, 32, 47, 57, 80, 84, 85, 122, 130, 134, 136, 155, 165, 178, 189, 213, 218, 220, 231, 240, 253, 262, 270, 271] 152 262 _ _ _).trans rfl
set_option maxRecDepth 4000 in
theorem b110_270 (X : smX) (h : smH) : sm_E PP X 110 270 [] [] h =
    sm_E PP X 110 271 [] [.int (nI 0)] h :=
  (sm_blk PP X 110 [0, 6, 12, 21, 32, 47, 57, 80, 84, 85, 122, 130, 134, 136, 155, 165, 178, 189, 213, 218, 220, 231, 240, 253, 262, 270, 271] 152 270 _ _ _).trans rfl
set_option maxRecDepth 4000 in
theorem b110_32 (X : smX) (x0 : Nat) (x1 : Int32) (x2 : Int32) (x3 : Int32) (x4 : Int32) (x5 : Int32) (x6 : Int32) (x7 : Int32) (h : smH) : sm_E PP X 110 32 [(0, .ref x0), (1, .int x1), (2, .int x2), (3, .int x3), (4, .int x4), (5, .int x5), (6, .int x6), (7, .int x7)] [] h =
    if x4 ≤ x7 then (sm_vc h x0 7 (sm_cR (sm_C PP X 101 [.ref x0, .int x3] h) fun w1 h2 => sm_E PP X 110 155 [(0, .ref x0), (1, .int x1), (2, .int x2), (3, .int x3), (4, .int x4)] (w1.toList ++ []) h2)) else sm_vc h x0 7 (sm_cR (sm_C PP X 78 [.ref x0, .int x3, .int x7, .int (nI 0)] h) fun w3 h4 => sm_E PP X 110 47 [(0, .ref x0), (1, .int x1), (2, .int x2), (3, .int x3), (4, .int x4), (5, .int x5), (6, .int x6), (7, .int x7)] (w3.toList ++ []) h4) :=
  (sm_blk PP X 110 [0, 6, 12, 21, 32, 47, 57, 80, 84, 85, 122, 130, 134, 136, 155, 165, 178, 189, 213, 218, 220, 231, 240, 253, 262, 270, 271] 152 32 _ _ _).trans rfl
set_option maxRecDepth 4000 in
theorem b110_271 (X : smX) (s0 : Int32) (h : smH) : sm_E PP X 110 271 [] [.int s0] h =
    if narrow (sm_nk 1) (.int s0) = .int s0 then some (some (.int s0), h) else none :=
  (sm_blk PP X 110 [0, 6, 12, 21, 32, 47, 57, 80, 84, 85, 122, 130, 134, 136, 155, 165, 178, 189, 213, 218, 220, 231, 240, 253, 262, 270, 271] 152 271 _ _ _).trans rfl
set_option maxRecDepth 4000 in
theorem b110_155 (X : smX) (x0 : Nat) (x1 : Int32) (x2 : Int32) (x3 : Int32) (x4 : Int32) (s0 : Int32) (h : smH) : sm_E PP X 110 155 [(0, .ref x0), (1, .int x1), (2, .int x2), (3, .int x3), (4, .int x4)] [.int s0] h =
    sm_vc h x0 7 (sm_cR (sm_C PP X 78 [.ref x0, .int x3, .int x4, .int (nI 0)] h) fun w1 h2 => sm_E PP X 110 165 [(0, .ref x0), (1, .int x1), (2, .int x2), (3, .int x3), (4, .int x4), (7, .int s0)] (w1.toList ++ []) h2) :=
  (sm_blk PP X 110 [0, 6, 12, 21, 32, 47, 57, 80, 84, 85, 122, 130, 134, 136, 155, 165, 178, 189, 213, 218, 220, 231, 240, 253, 262, 270, 271] 152 155 _ _ _).trans rfl
set_option maxRecDepth 4000 in
theorem b110_47 (X : smX) (x0 : Nat) (x1 : Int32) (x2 : Int32) (x3 : Int32) (x4 : Int32) (x5 : Int32) (x6 : Int32) (x7 : Int32) (s0 : Int32) (h : smH) : sm_E PP X 110 47 [(0, .ref x0), (1, .int x1), (2, .int x2), (3, .int x3), (4, .int x4), (5, .int x5), (6, .int x6), (7, .int x7)] [.int s0] h =
    sm_vc h x0 7 (sm_cR (sm_C PP X 78 [.ref x0, .int x3, .int x7, .int (nI 1)] h) fun w1 h2 => sm_E PP X 110 57 [(0, .ref x0), (1, .int x1), (2, .int x2), (3, .int x3), (4, .int x4), (5, .int x5), (6, .int x6), (7, .int x7), (8, .int s0)] (w1.toList ++ []) h2) :=
  (sm_blk PP X 110 [0, 6, 12, 21, 32, 47, 57, 80, 84, 85, 122, 130, 134, 136, 155, 165, 178, 189, 213, 218, 220, 231, 240, 253, 262, 270, 271] 152 47 _ _ _).trans rfl
set_option maxRecDepth 4000 in
theorem b110_165 (X : smX) (x0 : Nat) (x1 : Int32) (x2 : Int32) (x3 : Int32) (x4 : Int32) (x7 : Int32) (s0 : Int32) (h : smH) : sm_E PP X 110 165 [(0, .ref x0), (1, .int x1), (2, .int x2), (3, .int x3), (4, .int x4), (7, .int x7)] [.int s0] h =
    if s0 = (-nI 9) then (sm_vc h x0 7 (sm_cR (sm_C PP X 71 [.ref x0, .int x3, .int (nI 3)] h) fun w1 h2 => sm_E PP X 110 178 [(0, .ref x0), (1, .int x1), (2, .int x2), (3, .int x3), (4, .int x4), (7, .int x7)] (w1.toList ++ [.int x4]) h2)) else sm_E PP X 110 218 [] [] h :=
  (sm_blk PP X 110 [0, 6, 12, 21, 32, 47, 57, 80, 84, 85, 122, 130, 134, 136, 155, 165, 178, 189, 213, 218, 220, 231, 240, 253, 262, 270, 271] 152 165 _ _ _).trans rfl
set_option maxRecDepth 4000 in
theorem b110_57 (X : smX) (x0 : Nat) (x1 : Int32) (x2 : Int32) (x3 : Int32) (x4 : Int32) (x5 : Int32) (x6 : Int32) (x7 : Int32) (x8 : Int32) (s0 : Int32) (h : smH) : sm_E PP X 110 57 [(0, .ref x0), (1, .int x1), (2, .int x2), (3, .int x3), (4, .int x4), (5, .int x5), (6, .int x6), (7, .int x7), (8, .int x8)] [.int s0] h =
    if x5 < s0 then (sm_E PP X 110 80 [(0, .ref x0), (1, .int x1), (2, .int x2), (3, .int x3), (4, .int x4), (7, .int x7), (8, .int x8), (9, .int s0)] [] h) else if s0 = x5 then (if x8 ≤ x6 then (sm_E PP X 110 84 [(0, .ref x0), (1, .int x1), (2, .int x2), (3, .int x3), (4, .int x4), (7, .int x7), (8, .int x8), (9, .int s0)] [] h) else sm_E PP X 110 80 [(0, .ref x0), (1, .int x1), (2, .int x2), (3, .int x3), (4, .int x4), (7, .int x7), (8, .int x8), (9, .int s0)] [] h) else sm_E PP X 110 84 [(0, .ref x0), (1, .int x1), (2, .int x2), (3, .int x3), (4, .int x4), (7, .int x7), (8, .int x8), (9, .int s0)] [] h :=
  (sm_blk PP X 110 [0, 6, 12, 21, 32, 47, 57, 80, 84, 85, 122, 130, 134, 136, 155, 165, 178, 189, 213, 218, 220, 231, 240, 253, 262, 270, 271] 152 57 _ _ _).trans rfl
set_option maxRecDepth 4000 in
theorem b110_178 (X : smX) (x0 : Nat) (x1 : Int32) (x2 : Int32) (x3 : Int32) (x4 : Int32) (x7 : Int32) (s0 : Int32) (s1 : Int32) (h : smH) : sm_E PP X 110 178 [(0, .ref x0), (1, .int x1), (2, .int x2), (3, .int x3), (4, .int x4), (7, .int x7)] [.int s0, .int s1] h =
    if s0 < s1 then (sm_E PP X 110 218 [] [] h) else sm_vc h x0 7 (sm_cR (sm_C PP X 71 [.ref x0, .int x3, .int (nI 4)] h) fun w1 h2 => sm_E PP X 110 189 [(0, .ref x0), (1, .int x1), (2, .int x2), (3, .int x3), (4, .int x4), (7, .int x7)] (w1.toList ++ [.int x4]) h2) :=
  (sm_blk PP X 110 [0, 6, 12, 21, 32, 47, 57, 80, 84, 85, 122, 130, 134, 136, 155, 165, 178, 189, 213, 218, 220, 231, 240, 253, 262, 270, 271] 152 178 _ _ _).trans rfl
set_option maxRecDepth 4000 in
theorem b110_218 (X : smX) (h : smH) : sm_E PP X 110 218 [] [] h =
    if narrow (sm_nk 1) (.int (nI 0)) = .int (nI 0) then some (some (.int (nI 0)), h) else none :=
  (sm_blk PP X 110 [0, 6, 12, 21, 32, 47, 57, 80, 84, 85, 122, 130, 134, 136, 155, 165, 178, 189, 213, 218, 220, 231, 240, 253, 262, 270, 271] 152 218 _ _ _).trans rfl
set_option maxRecDepth 4000 in
theorem b110_80 (X : smX) (x0 : Nat) (x1 : Int32) (x2 : Int32) (x3 : Int32) (x4 : Int32) (x7 : Int32) (x8 : Int32) (x9 : Int32) (h : smH) : sm_E PP X 110 80 [(0, .ref x0), (1, .int x1), (2, .int x2), (3, .int x3), (4, .int x4), (7, .int x7), (8, .int x8), (9, .int x9)] [] h =
    sm_E PP X 110 85 [(0, .ref x0), (1, .int x1), (2, .int x2), (3, .int x3), (4, .int x4), (7, .int x7), (8, .int x8), (9, .int x9)] [.int (nI 1)] h :=
  (sm_blk PP X 110 [0, 6, 12, 21, 32, 47, 57, 80, 84, 85, 122, 130, 134, 136, 155, 165, 178, 189, 213, 218, 220, 231, 240, 253, 262, 270, 271] 152 80 _ _ _).trans rfl
set_option maxRecDepth 4000 in
theorem b110_84 (X : smX) (x0 : Nat) (x1 : Int32) (x2 : Int32) (x3 : Int32) (x4 : Int32) (x7 : Int32) (x8 : Int32) (x9 : Int32) (h : smH) : sm_E PP X 110 84 [(0, .ref x0), (1, .int x1), (2, .int x2), (3, .int x3), (4, .int x4), (7, .int x7), (8, .int x8), (9, .int x9)] [] h =
    sm_E PP X 110 85 [(0, .ref x0), (1, .int x1), (2, .int x2), (3, .int x3), (4, .int x4), (7, .int x7), (8, .int x8), (9, .int x9)] [.int (nI 0)] h :=
  (sm_blk PP X 110 [0, 6, 12, 21, 32, 47, 57, 80, 84, 85, 122, 130, 134, 136, 155, 165, 178, 189, 213, 218, 220, 231, 240, 253, 262, 270, 271] 152 84 _ _ _).trans rfl
set_option maxRecDepth 4000 in
theorem b110_189 (X : smX) (x0 : Nat) (x1 : Int32) (x2 : Int32) (x3 : Int32) (x4 : Int32) (x7 : Int32) (s0 : Int32) (s1 : Int32) (h : smH) : sm_E PP X 110 189 [(0, .ref x0), (1, .int x1), (2, .int x2), (3, .int x3), (4, .int x4), (7, .int x7)] [.int s0, .int s1] h =
    if s0 < s1 then (sm_E PP X 110 218 [] [] h) else if x7 = (-nI 9) then (sm_E PP X 110 220 [(0, .ref x0), (1, .int x1), (2, .int x2), (3, .int x3), (4, .int x4)] [] h) else if x4 < (nI 2) then (sm_E PP X 110 218 [] [] h) else sm_vc h x0 7 (sm_cR (sm_C PP X 72 [.ref x0, .int x3, .int (nI 0), .int x7] h) fun w1 h2 => sm_E PP X 110 213 [(0, .ref x0), (1, .int x1), (2, .int x2), (3, .int x3), (4, .int x4)] (w1.toList ++ []) h2) :=
  (sm_blk PP X 110 [0, 6, 12, 21, 32, 47, 57, 80, 84, 85, 122, 130, 134, 136, 155, 165, 178, 189, 213, 218, 220, 231, 240, 253, 262, 270, 271] 152 189 _ _ _).trans rfl
set_option maxRecDepth 4000 in
theorem b110_85 (X : smX) (x0 : Nat) (x1 : Int32) (x2 : Int32) (x3 : Int32) (x4 : Int32) (x7 : Int32) (x8 : Int32) (x9 : Int32) (s0 : Int32) (h : smH) : sm_E PP X 110 85 [(0, .ref x0), (1, .int x1), (2, .int x2), (3, .int x3), (4, .int x4), (7, .int x7), (8, .int x8), (9, .int x9)] [.int s0] h =
    if s0 = 0 then (sm_E PP X 110 134 [] [] h) else if x8 < 0 then (sm_E PP X 110 134 [] [] h) else if (nI 999) < x8 then (sm_E PP X 110 134 [] [] h) else if (nI 12) ≤ x7 then (sm_E PP X 110 136 [(0, .ref x0), (1, .int x1), (2, .int x2), (3, .int x3), (4, .int x4), (7, .int x7), (8, .int x8), (9, .int x9)] [] h) else sm_vc h x0 7 (sm_cR (sm_C PP X 73 [.ref x0, .int x3, .int x8, .int (nI 0)] h) fun w1 h2 => sm_E PP X 110 122 [(0, .ref x0), (1, .int x1), (2, .int x2), (3, .int x3), (4, .int x4), (7, .int x7), (8, .int x8), (9, .int x9)] (w1.toList ++ [.int x9]) h2) :=
  (sm_blk PP X 110 [0, 6, 12, 21, 32, 47, 57, 80, 84, 85, 122, 130, 134, 136, 155, 165, 178, 189, 213, 218, 220, 231, 240, 253, 262, 270, 271] 152 85 _ _ _).trans rfl
set_option maxRecDepth 4000 in
theorem b110_220 (X : smX) (x0 : Nat) (x1 : Int32) (x2 : Int32) (x3 : Int32) (x4 : Int32) (h : smH) : sm_E PP X 110 220 [(0, .ref x0), (1, .int x1), (2, .int x2), (3, .int x3), (4, .int x4)] [] h =
    if x4 = 0 then (sm_E PP X 110 231 [(0, .ref x0), (2, .int x2), (3, .int x3)] [.int (nI 1), .int x1] h) else sm_E PP X 110 231 [(0, .ref x0), (2, .int x2), (3, .int x3)] [.int (nI 0), .int x1] h :=
  (sm_blk PP X 110 [0, 6, 12, 21, 32, 47, 57, 80, 84, 85, 122, 130, 134, 136, 155, 165, 178, 189, 213, 218, 220, 231, 240, 253, 262, 270, 271] 152 220 _ _ _).trans rfl
set_option maxRecDepth 4000 in
theorem b110_213 (X : smX) (x0 : Nat) (x1 : Int32) (x2 : Int32) (x3 : Int32) (x4 : Int32) (s0 : Int32) (h : smH) : sm_E PP X 110 213 [(0, .ref x0), (1, .int x1), (2, .int x2), (3, .int x3), (4, .int x4)] [.int s0] h =
    if s0 = (nI 63) then (sm_E PP X 110 220 [(0, .ref x0), (1, .int x1), (2, .int x2), (3, .int x3), (4, .int x4)] [] h) else sm_E PP X 110 218 [] [] h :=
  (sm_blk PP X 110 [0, 6, 12, 21, 32, 47, 57, 80, 84, 85, 122, 130, 134, 136, 155, 165, 178, 189, 213, 218, 220, 231, 240, 253, 262, 270, 271] 152 213 _ _ _).trans rfl
set_option maxRecDepth 4000 in
theorem b110_134 (X : smX) (h : smH) : sm_E PP X 110 134 [] [] h =
    if narrow (sm_nk 1) (.int (nI 0)) = .int (nI 0) then some (some (.int (nI 0)), h) else none :=
  (sm_blk PP X 110 [0, 6, 12, 21, 32, 47, 57, 80, 84, 85, 122, 130, 134, 136, 155, 165, 178, 189, 213, 218, 220, 231, 240, 253, 262, 270, 271] 152 134 _ _ _).trans rfl
set_option maxRecDepth 4000 in
theorem b110_136 (X : smX) (x0 : Nat) (x1 : Int32) (x2 : Int32) (x3 : Int32) (x4 : Int32) (x7 : Int32) (x8 : Int32) (x9 : Int32) (h : smH) : sm_E PP X 110 136 [(0, .ref x0), (1, .int x1), (2, .int x2), (3, .int x3), (4, .int x4), (7, .int x7), (8, .int x8), (9, .int x9)] [] h =
    sm_E PP X 110 32 [(0, .ref x0), (1, .int x1), (2, .int x2), (3, .int x3), (4, .int x4), (5, .int x9), (6, .int x8), (7, .int (x7 + (nI 1)))] [] h :=
  (sm_blk PP X 110 [0, 6, 12, 21, 32, 47, 57, 80, 84, 85, 122, 130, 134, 136, 155, 165, 178, 189, 213, 218, 220, 231, 240, 253, 262, 270, 271] 152 136 _ _ _).trans rfl
set_option maxRecDepth 4000 in
theorem b110_122 (X : smX) (x0 : Nat) (x1 : Int32) (x2 : Int32) (x3 : Int32) (x4 : Int32) (x7 : Int32) (x8 : Int32) (x9 : Int32) (s0 : Int32) (s1 : Int32) (h : smH) : sm_E PP X 110 122 [(0, .ref x0), (1, .int x1), (2, .int x2), (3, .int x3), (4, .int x4), (7, .int x7), (8, .int x8), (9, .int x9)] [.int s0, .int s1] h =
    sm_vc h x0 7 (sm_cR (sm_C PP X 73 [.ref x0, .int x3, .int x8, .int (nI 1)] h) fun w1 h2 => sm_E PP X 110 130 [(0, .ref x0), (1, .int x1), (2, .int x2), (3, .int x3), (4, .int x4), (7, .int x7), (8, .int x8), (9, .int x9)] (w1.toList ++ [.int s0, .int s1]) h2) :=
  (sm_blk PP X 110 [0, 6, 12, 21, 32, 47, 57, 80, 84, 85, 122, 130, 134, 136, 155, 165, 178, 189, 213, 218, 220, 231, 240, 253, 262, 270, 271] 152 122 _ _ _).trans rfl
set_option maxRecDepth 4000 in
theorem b110_231 (X : smX) (x0 : Nat) (x2 : Int32) (x3 : Int32) (s0 : Int32) (s1 : Int32) (h : smH) : sm_E PP X 110 231 [(0, .ref x0), (2, .int x2), (3, .int x3)] [.int s0, .int s1] h =
    sm_vc h x0 7 (sm_cR (sm_C PP X 71 [.ref x0, .int x3, .int (nI 2)] h) fun w1 h2 => sm_E PP X 110 240 [(0, .ref x0), (1, .int (s1 + s0)), (3, .int x3)] (w1.toList ++ [.int x2]) h2) :=
  (sm_blk PP X 110 [0, 6, 12, 21, 32, 47, 57, 80, 84, 85, 122, 130, 134, 136, 155, 165, 178, 189, 213, 218, 220, 231, 240, 253, 262, 270, 271] 152 231 _ _ _).trans rfl
set_option maxRecDepth 4000 in
theorem b110_130 (X : smX) (x0 : Nat) (x1 : Int32) (x2 : Int32) (x3 : Int32) (x4 : Int32) (x7 : Int32) (x8 : Int32) (x9 : Int32) (s0 : Int32) (s1 : Int32) (s2 : Int32) (h : smH) : sm_E PP X 110 130 [(0, .ref x0), (1, .int x1), (2, .int x2), (3, .int x3), (4, .int x4), (7, .int x7), (8, .int x8), (9, .int x9)] [.int s0, .int s1, .int s2] h =
    if s2 = (s1 + s0) then (sm_E PP X 110 136 [(0, .ref x0), (1, .int x1), (2, .int x2), (3, .int x3), (4, .int x4), (7, .int x7), (8, .int x8), (9, .int x9)] [] h) else sm_E PP X 110 134 [] [] h :=
  (sm_blk PP X 110 [0, 6, 12, 21, 32, 47, 57, 80, 84, 85, 122, 130, 134, 136, 155, 165, 178, 189, 213, 218, 220, 231, 240, 253, 262, 270, 271] 152 130 _ _ _).trans rfl
set_option maxRecDepth 4000 in
theorem b110_240 (X : smX) (x0 : Nat) (x1 : Int32) (x3 : Int32) (s0 : Int32) (s1 : Int32) (h : smH) : sm_E PP X 110 240 [(0, .ref x0), (1, .int x1), (3, .int x3)] [.int s0, .int s1] h =
    sm_E PP X 110 6 [(0, .ref x0), (1, .int x1), (2, .int (s1 + s0)), (3, .int (x3 + (nI 1)))] [] h :=
  (sm_blk PP X 110 [0, 6, 12, 21, 32, 47, 57, 80, 84, 85, 122, 130, 134, 136, 155, 165, 178, 189, 213, 218, 220, 231, 240, 253, 262, 270, 271] 152 240 _ _ _).trans rfl
/-! 111: WornSumsLaw.least(LWornSums;)Z -/
theorem c111 (X : smX) (x0 : Nat) (h : smH) : sm_C PP X 111 [.ref x0] h = sm_E PP X 111 0 [(0, .ref x0)] [] h := rfl
set_option maxRecDepth 4000 in
theorem b111_0 (X : smX) (x0 : Nat) (h : smH) : sm_E PP X 111 0 [(0, .ref x0)] [] h =
    sm_vc h x0 7 (sm_cR (sm_C PP X 105 [.ref x0, .int (nI 0)] h) fun w1 h2 => sm_E PP X 111 5 [(0, .ref x0)] (w1.toList ++ []) h2) :=
  (sm_blk PP X 111 [0, 5, 11, 17, 36, 54, 62, 63, 74, 85, 89, 101, 112, 116, 125, 133, 155, 166, 180, 199, 215, 218, 225, 236, 238, 256, 265, 269, 286, 306, 310, 311, 317, 338, 348, 349] 190 0 _ _ _).trans rfl
set_option maxRecDepth 4000 in
theorem b111_5 (X : smX) (x0 : Nat) (s0 : Int32) (h : smH) : sm_E PP X 111 5 [(0, .ref x0)] [.int s0] h =
    sm_vc h x0 7 (sm_cR (sm_C PP X 105 [.ref x0, .int (nI 3)] h) fun w1 h2 => sm_E PP X 111 11 [(0, .ref x0), (1, .int s0)] (w1.toList ++ []) h2) :=
  (sm_blk PP X 111 [0, 5, 11, 17, 36, 54, 62, 63, 74, 85, 89, 101, 112, 116, 125, 133, 155, 166, 180, 199, 215, 218, 225, 236, 238, 256, 265, 269, 286, 306, 310, 311, 317, 338, 348, 349] 190 5 _ _ _).trans rfl
set_option maxRecDepth 4000 in
theorem b111_11 (X : smX) (x0 : Nat) (x1 : Int32) (s0 : Int32) (h : smH) : sm_E PP X 111 11 [(0, .ref x0), (1, .int x1)] [.int s0] h =
    sm_vc h x0 7 (sm_cR (sm_C PP X 91 [.ref x0, .int (-nI 1)] h) fun w1 h2 => sm_E PP X 111 17 [(0, .ref x0), (1, .int x1), (2, .int s0)] (w1.toList ++ []) h2) :=
  (sm_blk PP X 111 [0, 5, 11, 17, 36, 54, 62, 63, 74, 85, 89, 101, 112, 116, 125, 133, 155, 166, 180, 199, 215, 218, 225, 236, 238, 256, 265, 269, 286, 306, 310, 311, 317, 338, 348, 349] 190 11 _ _ _).trans rfl
set_option maxRecDepth 4000 in
theorem b111_17 (X : smX) (x0 : Nat) (x1 : Int32) (x2 : Int32) (s0 : Int32) (h : smH) : sm_E PP X 111 17 [(0, .ref x0), (1, .int x1), (2, .int x2)] [.int s0] h =
    sm_E PP X 111 36 [(0, .ref x0), (1, .int x1), (2, .int x2), (3, .int s0), (4, .int (nI 0)), (5, .int (nI 0)), (6, .int (nI 0)), (7, .int (nI 1)), (8, .int (nI 0)), (9, .int (nI 0))] [] h :=
  (sm_blk PP X 111 [0, 5, 11, 17, 36, 54, 62, 63, 74, 85, 89, 101, 112, 116, 125, 133, 155, 166, 180, 199, 215, 218, 225, 236, 238, 256, 265, 269, 286, 306, 310, 311, 317, 338, 348, 349] 190 17 _ _ _).trans rfl
set_option maxRecDepth 4000 in
theorem b111_36 (X : smX) (x0 : Nat) (x1 : Int32) (x2 : Int32) (x3 : Int32) (x4 : Int32) (x5 : Int32) (x6 : Int32) (x7 : Int32) (x8 : Int32) (x9 : Int32) (h : smH) : sm_E PP X 111 36 [(0, .ref x0), (1, .int x1), (2, .int x2), (3, .int x3), (4, .int x4), (5, .int x5), (6, .int x6), (7, .int x7), (8, .int x8), (9, .int x9)] [] h =
    if x1 ≤ x9 then (if x3 = (-nI 9) then (sm_vc h x0 7 (sm_cR (sm_C PP X 105 [.ref x0, .int (nI 1)] h) fun w1 h2 => sm_E PP X 111 286 [(2, .int x2), (7, .int x7), (8, .int x8)] (w1.toList ++ []) h2)) else sm_vc h x0 7 (sm_cR (sm_C PP X 105 [.ref x0, .int (nI 1)] h) fun w3 h4 => sm_E PP X 111 317 [(2, .int x2), (3, .int x3), (4, .int x4), (5, .int x5), (6, .int x6)] (w3.toList ++ []) h4)) else if x7 = 0 then (sm_E PP X 111 62 [(0, .ref x0), (1, .int x1), (2, .int x2), (3, .int x3), (4, .int x4), (5, .int x5), (6, .int x6), (8, .int x8), (9, .int x9)] [] h) else sm_vc h x0 7 (sm_cR (sm_C PP X 71 [.ref x0, .int x9, .int (nI 5)] h) fun w5 h6 => sm_E PP X 111 54 [(0, .ref x0), (1, .int x1), (2, .int x2), (3, .int x3), (4, .int x4), (5, .int x5), (6, .int x6), (8, .int x8), (9, .int x9)] (w5.toList ++ []) h6) :=
  (sm_blk PP X 111 [0, 5, 11, 17, 36, 54, 62, 63, 74, 85, 89, 101, 112, 116, 125, 133, 155, 166, 180, 199, 215, 218, 225, 236, 238, 256, 265, 269, 286, 306, 310, 311, 317, 338, 348, 349] 190 36 _ _ _).trans rfl
set_option maxRecDepth 4000 in
theorem b111_286 (X : smX) (x2 : Int32) (x7 : Int32) (x8 : Int32) (s0 : Int32) (h : smH) : sm_E PP X 111 286 [(2, .int x2), (7, .int x7), (8, .int x8)] [.int s0] h =
    if 0 < s0 then (sm_E PP X 111 306 [] [] h) else if x2 = (-nI 9) then (sm_E PP X 111 310 [] [] h) else if x7 = 0 then (sm_E PP X 111 306 [] [] h) else if x8 = x2 then (sm_E PP X 111 310 [] [] h) else sm_E PP X 111 306 [] [] h :=
  (sm_blk PP X 111 [0, 5, 11, 17, 36, 54, 62, 63, 74, 85, 89, 101, 112, 116, 125, 133, 155, 166, 180, 199, 215, 218, 225, 236, 238, 256, 265, 269, 286, 306, 310, 311, 317, 338, 348, 349] 190 286 _ _ _).trans rfl
set_option maxRecDepth 4000 in
theorem b111_317 (X : smX) (x2 : Int32) (x3 : Int32) (x4 : Int32) (x5 : Int32) (x6 : Int32) (s0 : Int32) (h : smH) : sm_E PP X 111 317 [(2, .int x2), (3, .int x3), (4, .int x4), (5, .int x5), (6, .int x6)] [.int s0] h =
    if s0 = 0 then (if x3 = x5 then (if x2 = (-nI 9) then (sm_E PP X 111 338 [(3, .int x3), (6, .int x6)] [] h) else if x4 = x2 then (sm_E PP X 111 338 [(3, .int x3), (6, .int x6)] [] h) else sm_E PP X 111 348 [] [] h) else sm_E PP X 111 348 [] [] h) else sm_E PP X 111 348 [] [] h :=
  (sm_blk PP X 111 [0, 5, 11, 17, 36, 54, 62, 63, 74, 85, 89, 101, 112, 116, 125, 133, 155, 166, 180, 199, 215, 218, 225, 236, 238, 256, 265, 269, 286, 306, 310, 311, 317, 338, 348, 349] 190 317 _ _ _).trans rfl
set_option maxRecDepth 4000 in
theorem b111_62 (X : smX) (x0 : Nat) (x1 : Int32) (x2 : Int32) (x3 : Int32) (x4 : Int32) (x5 : Int32) (x6 : Int32) (x8 : Int32) (x9 : Int32) (h : smH) : sm_E PP X 111 62 [(0, .ref x0), (1, .int x1), (2, .int x2), (3, .int x3), (4, .int x4), (5, .int x5), (6, .int x6), (8, .int x8), (9, .int x9)] [] h =
    sm_E PP X 111 63 [(0, .ref x0), (1, .int x1), (2, .int x2), (3, .int x3), (4, .int x4), (5, .int x5), (6, .int x6), (8, .int x8), (9, .int x9)] [.int (nI 0)] h :=
  (sm_blk PP X 111 [0, 5, 11, 17, 36, 54, 62, 63, 74, 85, 89, 101, 112, 116, 125, 133, 155, 166, 180, 199, 215, 218, 225, 236, 238, 256, 265, 269, 286, 306, 310, 311, 317, 338, 348, 349] 190 62 _ _ _).trans rfl
set_option maxRecDepth 4000 in
theorem b111_54 (X : smX) (x0 : Nat) (x1 : Int32) (x2 : Int32) (x3 : Int32) (x4 : Int32) (x5 : Int32) (x6 : Int32) (x8 : Int32) (x9 : Int32) (s0 : Int32) (h : smH) : sm_E PP X 111 54 [(0, .ref x0), (1, .int x1), (2, .int x2), (3, .int x3), (4, .int x4), (5, .int x5), (6, .int x6), (8, .int x8), (9, .int x9)] [.int s0] h =
    if s0 = (nI 1) then (sm_E PP X 111 63 [(0, .ref x0), (1, .int x1), (2, .int x2), (3, .int x3), (4, .int x4), (5, .int x5), (6, .int x6), (8, .int x8), (9, .int x9)] [.int (nI 1)] h) else sm_E PP X 111 62 [(0, .ref x0), (1, .int x1), (2, .int x2), (3, .int x3), (4, .int x4), (5, .int x5), (6, .int x6), (8, .int x8), (9, .int x9)] [] h :=
  (sm_blk PP X 111 [0, 5, 11, 17, 36, 54, 62, 63, 74, 85, 89, 101, 112, 116, 125, 133, 155, 166, 180, 199, 215, 218, 225, 236, 238, 256, 265, 269, 286, 306, 310, 311, 317, 338, 348, 349] 190 54 _ _ _).trans rfl
set_option maxRecDepth 4000 in
theorem b111_306 (X : smX) (h : smH) : sm_E PP X 111 306 [] [] h =
    sm_E PP X 111 311 [] [.int (nI 1)] h :=
  (sm_blk PP X 111 [0, 5, 11, 17, 36, 54, 62, 63, 74, 85, 89, 101, 112, 116, 125, 133, 155, 166, 180, 199, 215, 218, 225, 236, 238, 256, 265, 269, 286, 306, 310, 311, 317, 338, 348, 349] 190 306 _ _ _).trans rfl
set_option maxRecDepth 4000 in
theorem b111_310 (X : smX) (h : smH) : sm_E PP X 111 310 [] [] h =
    sm_E PP X 111 311 [] [.int (nI 0)] h :=
  (sm_blk PP X 111 [0, 5, 11, 17, 36, 54, 62, 63, 74, 85, 89, 101, 112, 116, 125, 133, 155, 166, 180, 199, 215, 218, 225, 236, 238, 256, 265, 269, 286, 306, 310, 311, 317, 338, 348, 349] 190 310 _ _ _).trans rfl
set_option maxRecDepth 4000 in
theorem b111_338 (X : smX) (x3 : Int32) (x6 : Int32) (h : smH) : sm_E PP X 111 338 [(3, .int x3), (6, .int x6)] [] h =
    if x3 < x6 then (sm_E PP X 111 348 [] [] h) else sm_E PP X 111 349 [] [.int (nI 1)] h :=
  (sm_blk PP X 111 [0, 5, 11, 17, 36, 54, 62, 63, 74, 85, 89, 101, 112, 116, 125, 133, 155, 166, 180, 199, 215, 218, 225, 236, 238, 256, 265, 269, 286, 306, 310, 311, 317, 338, 348, 349] 190 338 _ _ _).trans rfl
set_option maxRecDepth 4000 in
theorem b111_348 (X : smX) (h : smH) : sm_E PP X 111 348 [] [] h =
    sm_E PP X 111 349 [] [.int (nI 0)] h :=
  (sm_blk PP X 111 [0, 5, 11, 17, 36, 54, 62, 63, 74, 85, 89, 101, 112, 116, 125, 133, 155, 166, 180, 199, 215, 218, 225, 236, 238, 256, 265, 269, 286, 306, 310, 311, 317, 338, 348, 349] 190 348 _ _ _).trans rfl
set_option maxRecDepth 4000 in
theorem b111_63 (X : smX) (x0 : Nat) (x1 : Int32) (x2 : Int32) (x3 : Int32) (x4 : Int32) (x5 : Int32) (x6 : Int32) (x8 : Int32) (x9 : Int32) (s0 : Int32) (h : smH) : sm_E PP X 111 63 [(0, .ref x0), (1, .int x1), (2, .int x2), (3, .int x3), (4, .int x4), (5, .int x5), (6, .int x6), (8, .int x8), (9, .int x9)] [.int s0] h =
    sm_vc h x0 7 (sm_cR (sm_C PP X 71 [.ref x0, .int x9, .int (nI 5)] h) fun w1 h2 => sm_E PP X 111 74 [(0, .ref x0), (1, .int x1), (2, .int x2), (3, .int x3), (4, .int x4), (5, .int x5), (6, .int x6), (7, .int s0), (9, .int x9)] (w1.toList ++ [.int x8]) h2) :=
  (sm_blk PP X 111 [0, 5, 11, 17, 36, 54, 62, 63, 74, 85, 89, 101, 112, 116, 125, 133, 155, 166, 180, 199, 215, 218, 225, 236, 238, 256, 265, 269, 286, 306, 310, 311, 317, 338, 348, 349] 190 63 _ _ _).trans rfl
set_option maxRecDepth 4000 in
theorem b111_311 (X : smX) (s0 : Int32) (h : smH) : sm_E PP X 111 311 [] [.int s0] h =
    if narrow (sm_nk 1) (.int s0) = .int s0 then some (some (.int s0), h) else none :=
  (sm_blk PP X 111 [0, 5, 11, 17, 36, 54, 62, 63, 74, 85, 89, 101, 112, 116, 125, 133, 155, 166, 180, 199, 215, 218, 225, 236, 238, 256, 265, 269, 286, 306, 310, 311, 317, 338, 348, 349] 190 311 _ _ _).trans rfl
set_option maxRecDepth 4000 in
theorem b111_349 (X : smX) (s0 : Int32) (h : smH) : sm_E PP X 111 349 [] [.int s0] h =
    if narrow (sm_nk 1) (.int s0) = .int s0 then some (some (.int s0), h) else none :=
  (sm_blk PP X 111 [0, 5, 11, 17, 36, 54, 62, 63, 74, 85, 89, 101, 112, 116, 125, 133, 155, 166, 180, 199, 215, 218, 225, 236, 238, 256, 265, 269, 286, 306, 310, 311, 317, 338, 348, 349] 190 349 _ _ _).trans rfl
set_option maxRecDepth 4000 in
theorem b111_74 (X : smX) (x0 : Nat) (x1 : Int32) (x2 : Int32) (x3 : Int32) (x4 : Int32) (x5 : Int32) (x6 : Int32) (x7 : Int32) (x9 : Int32) (s0 : Int32) (s1 : Int32) (h : smH) : sm_E PP X 111 74 [(0, .ref x0), (1, .int x1), (2, .int x2), (3, .int x3), (4, .int x4), (5, .int x5), (6, .int x6), (7, .int x7), (9, .int x9)] [.int s0, .int s1] h =
    if s0 ≤ 0 then (sm_E PP X 111 89 [(0, .ref x0), (1, .int x1), (2, .int x2), (3, .int x3), (4, .int x4), (5, .int x5), (6, .int x6), (7, .int x7), (9, .int x9)] [.int (nI 0), .int s1] h) else sm_vc h x0 7 (sm_cR (sm_C PP X 78 [.ref x0, .int x9, .int (nI 0), .int (nI 0)] h) fun w1 h2 => sm_E PP X 111 85 [(0, .ref x0), (1, .int x1), (2, .int x2), (3, .int x3), (4, .int x4), (5, .int x5), (6, .int x6), (7, .int x7), (9, .int x9)] (w1.toList ++ [.int s1]) h2) :=
  (sm_blk PP X 111 [0, 5, 11, 17, 36, 54, 62, 63, 74, 85, 89, 101, 112, 116, 125, 133, 155, 166, 180, 199, 215, 218, 225, 236, 238, 256, 265, 269, 286, 306, 310, 311, 317, 338, 348, 349] 190 74 _ _ _).trans rfl
set_option maxRecDepth 4000 in
theorem b111_89 (X : smX) (x0 : Nat) (x1 : Int32) (x2 : Int32) (x3 : Int32) (x4 : Int32) (x5 : Int32) (x6 : Int32) (x7 : Int32) (x9 : Int32) (s0 : Int32) (s1 : Int32) (h : smH) : sm_E PP X 111 89 [(0, .ref x0), (1, .int x1), (2, .int x2), (3, .int x3), (4, .int x4), (5, .int x5), (6, .int x6), (7, .int x7), (9, .int x9)] [.int s0, .int s1] h =
    sm_vc h x0 7 (sm_cR (sm_C PP X 71 [.ref x0, .int x9, .int (nI 5)] h) fun w1 h2 => sm_E PP X 111 101 [(0, .ref x0), (1, .int x1), (2, .int x2), (3, .int x3), (4, .int x4), (5, .int x5), (7, .int x7), (8, .int (s1 + s0)), (9, .int x9)] (w1.toList ++ [.int x6]) h2) :=
  (sm_blk PP X 111 [0, 5, 11, 17, 36, 54, 62, 63, 74, 85, 89, 101, 112, 116, 125, 133, 155, 166, 180, 199, 215, 218, 225, 236, 238, 256, 265, 269, 286, 306, 310, 311, 317, 338, 348, 349] 190 89 _ _ _).trans rfl
set_option maxRecDepth 4000 in
theorem b111_85 (X : smX) (x0 : Nat) (x1 : Int32) (x2 : Int32) (x3 : Int32) (x4 : Int32) (x5 : Int32) (x6 : Int32) (x7 : Int32) (x9 : Int32) (s0 : Int32) (s1 : Int32) (h : smH) : sm_E PP X 111 85 [(0, .ref x0), (1, .int x1), (2, .int x2), (3, .int x3), (4, .int x4), (5, .int x5), (6, .int x6), (7, .int x7), (9, .int x9)] [.int s0, .int s1] h =
    sm_E PP X 111 89 [(0, .ref x0), (1, .int x1), (2, .int x2), (3, .int x3), (4, .int x4), (5, .int x5), (6, .int x6), (7, .int x7), (9, .int x9)] [.int s0, .int s1] h :=
  (sm_blk PP X 111 [0, 5, 11, 17, 36, 54, 62, 63, 74, 85, 89, 101, 112, 116, 125, 133, 155, 166, 180, 199, 215, 218, 225, 236, 238, 256, 265, 269, 286, 306, 310, 311, 317, 338, 348, 349] 190 85 _ _ _).trans rfl
set_option maxRecDepth 4000 in
theorem b111_101 (X : smX) (x0 : Nat) (x1 : Int32) (x2 : Int32) (x3 : Int32) (x4 : Int32) (x5 : Int32) (x7 : Int32) (x8 : Int32) (x9 : Int32) (s0 : Int32) (s1 : Int32) (h : smH) : sm_E PP X 111 101 [(0, .ref x0), (1, .int x1), (2, .int x2), (3, .int x3), (4, .int x4), (5, .int x5), (7, .int x7), (8, .int x8), (9, .int x9)] [.int s0, .int s1] h =
    if s0 ≤ 0 then (sm_E PP X 111 116 [(0, .ref x0), (1, .int x1), (2, .int x2), (3, .int x3), (4, .int x4), (5, .int x5), (7, .int x7), (8, .int x8), (9, .int x9)] [.int (nI 0), .int s1] h) else sm_vc h x0 7 (sm_cR (sm_C PP X 78 [.ref x0, .int x9, .int (nI 0), .int (nI 1)] h) fun w1 h2 => sm_E PP X 111 112 [(0, .ref x0), (1, .int x1), (2, .int x2), (3, .int x3), (4, .int x4), (5, .int x5), (7, .int x7), (8, .int x8), (9, .int x9)] (w1.toList ++ [.int s1]) h2) :=
  (sm_blk PP X 111 [0, 5, 11, 17, 36, 54, 62, 63, 74, 85, 89, 101, 112, 116, 125, 133, 155, 166, 180, 199, 215, 218, 225, 236, 238, 256, 265, 269, 286, 306, 310, 311, 317, 338, 348, 349] 190 101 _ _ _).trans rfl
set_option maxRecDepth 4000 in
theorem b111_116 (X : smX) (x0 : Nat) (x1 : Int32) (x2 : Int32) (x3 : Int32) (x4 : Int32) (x5 : Int32) (x7 : Int32) (x8 : Int32) (x9 : Int32) (s0 : Int32) (s1 : Int32) (h : smH) : sm_E PP X 111 116 [(0, .ref x0), (1, .int x1), (2, .int x2), (3, .int x3), (4, .int x4), (5, .int x5), (7, .int x7), (8, .int x8), (9, .int x9)] [.int s0, .int s1] h =
    sm_vc h x0 7 (sm_cR (sm_C PP X 91 [.ref x0, .int x9] h) fun w1 h2 => sm_E PP X 111 125 [(0, .ref x0), (1, .int x1), (2, .int x2), (3, .int x3), (4, .int x4), (5, .int x5), (6, .int (s1 + s0)), (7, .int x7), (8, .int x8), (9, .int x9)] (w1.toList ++ []) h2) :=
  (sm_blk PP X 111 [0, 5, 11, 17, 36, 54, 62, 63, 74, 85, 89, 101, 112, 116, 125, 133, 155, 166, 180, 199, 215, 218, 225, 236, 238, 256, 265, 269, 286, 306, 310, 311, 317, 338, 348, 349] 190 116 _ _ _).trans rfl
set_option maxRecDepth 4000 in
theorem b111_112 (X : smX) (x0 : Nat) (x1 : Int32) (x2 : Int32) (x3 : Int32) (x4 : Int32) (x5 : Int32) (x7 : Int32) (x8 : Int32) (x9 : Int32) (s0 : Int32) (s1 : Int32) (h : smH) : sm_E PP X 111 112 [(0, .ref x0), (1, .int x1), (2, .int x2), (3, .int x3), (4, .int x4), (5, .int x5), (7, .int x7), (8, .int x8), (9, .int x9)] [.int s0, .int s1] h =
    sm_E PP X 111 116 [(0, .ref x0), (1, .int x1), (2, .int x2), (3, .int x3), (4, .int x4), (5, .int x5), (7, .int x7), (8, .int x8), (9, .int x9)] [.int s0, .int s1] h :=
  (sm_blk PP X 111 [0, 5, 11, 17, 36, 54, 62, 63, 74, 85, 89, 101, 112, 116, 125, 133, 155, 166, 180, 199, 215, 218, 225, 236, 238, 256, 265, 269, 286, 306, 310, 311, 317, 338, 348, 349] 190 112 _ _ _).trans rfl
set_option maxRecDepth 4000 in
theorem b111_125 (X : smX) (x0 : Nat) (x1 : Int32) (x2 : Int32) (x3 : Int32) (x4 : Int32) (x5 : Int32) (x6 : Int32) (x7 : Int32) (x8 : Int32) (x9 : Int32) (s0 : Int32) (h : smH) : sm_E PP X 111 125 [(0, .ref x0), (1, .int x1), (2, .int x2), (3, .int x3), (4, .int x4), (5, .int x5), (6, .int x6), (7, .int x7), (8, .int x8), (9, .int x9)] [.int s0] h =
    sm_vc h x0 7 (sm_cR (sm_C PP X 98 [.ref x0, .int x9] h) fun w1 h2 => sm_E PP X 111 133 [(0, .ref x0), (1, .int x1), (2, .int x2), (3, .int x3), (4, .int x4), (5, .int x5), (6, .int x6), (7, .int x7), (8, .int x8), (9, .int x9), (10, .int s0)] (w1.toList ++ []) h2) :=
  (sm_blk PP X 111 [0, 5, 11, 17, 36, 54, 62, 63, 74, 85, 89, 101, 112, 116, 125, 133, 155, 166, 180, 199, 215, 218, 225, 236, 238, 256, 265, 269, 286, 306, 310, 311, 317, 338, 348, 349] 190 125 _ _ _).trans rfl
set_option maxRecDepth 4000 in
theorem b111_133 (X : smX) (x0 : Nat) (x1 : Int32) (x2 : Int32) (x3 : Int32) (x4 : Int32) (x5 : Int32) (x6 : Int32) (x7 : Int32) (x8 : Int32) (x9 : Int32) (x10 : Int32) (s0 : Int32) (h : smH) : sm_E PP X 111 133 [(0, .ref x0), (1, .int x1), (2, .int x2), (3, .int x3), (4, .int x4), (5, .int x5), (6, .int x6), (7, .int x7), (8, .int x8), (9, .int x9), (10, .int x10)] [.int s0] h =
    if x3 = (-nI 9) then (if x10 = (-nI 9) then (if s0 = (-nI 9) then (sm_E PP X 111 269 [(0, .ref x0), (1, .int x1), (2, .int x2), (3, .int x3), (4, .int x4), (5, .int x5), (6, .int x6), (7, .int x7), (8, .int x8), (9, .int x9)] [] h) else sm_E PP X 111 155 [] [] h) else sm_E PP X 111 155 [] [] h) else sm_vc h x0 7 (sm_cR (sm_C PP X 73 [.ref x0, .int x9, .int x10, .int (nI 0)] h) fun w1 h2 => sm_E PP X 111 166 [(0, .ref x0), (1, .int x1), (2, .int x2), (3, .int x3), (4, .int x4), (5, .int x5), (6, .int x6), (7, .int x7), (8, .int x8), (9, .int x9), (10, .int x10), (11, .int s0)] (w1.toList ++ []) h2) :=
  (sm_blk PP X 111 [0, 5, 11, 17, 36, 54, 62, 63, 74, 85, 89, 101, 112, 116, 125, 133, 155, 166, 180, 199, 215, 218, 225, 236, 238, 256, 265, 269, 286, 306, 310, 311, 317, 338, 348, 349] 190 133 _ _ _).trans rfl
set_option maxRecDepth 4000 in
theorem b111_269 (X : smX) (x0 : Nat) (x1 : Int32) (x2 : Int32) (x3 : Int32) (x4 : Int32) (x5 : Int32) (x6 : Int32) (x7 : Int32) (x8 : Int32) (x9 : Int32) (h : smH) : sm_E PP X 111 269 [(0, .ref x0), (1, .int x1), (2, .int x2), (3, .int x3), (4, .int x4), (5, .int x5), (6, .int x6), (7, .int x7), (8, .int x8), (9, .int x9)] [] h =
    sm_E PP X 111 36 [(0, .ref x0), (1, .int x1), (2, .int x2), (3, .int x3), (4, .int x4), (5, .int x5), (6, .int x6), (7, .int x7), (8, .int x8), (9, .int (x9 + (nI 1)))] [] h :=
  (sm_blk PP X 111 [0, 5, 11, 17, 36, 54, 62, 63, 74, 85, 89, 101, 112, 116, 125, 133, 155, 166, 180, 199, 215, 218, 225, 236, 238, 256, 265, 269, 286, 306, 310, 311, 317, 338, 348, 349] 190 269 _ _ _).trans rfl
set_option maxRecDepth 4000 in
theorem b111_155 (X : smX) (h : smH) : sm_E PP X 111 155 [] [] h =
    if narrow (sm_nk 1) (.int (nI 0)) = .int (nI 0) then some (some (.int (nI 0)), h) else none :=
  (sm_blk PP X 111 [0, 5, 11, 17, 36, 54, 62, 63, 74, 85, 89, 101, 112, 116, 125, 133, 155, 166, 180, 199, 215, 218, 225, 236, 238, 256, 265, 269, 286, 306, 310, 311, 317, 338, 348, 349] 190 155 _ _ _).trans rfl
set_option maxRecDepth 4000 in
theorem b111_166 (X : smX) (x0 : Nat) (x1 : Int32) (x2 : Int32) (x3 : Int32) (x4 : Int32) (x5 : Int32) (x6 : Int32) (x7 : Int32) (x8 : Int32) (x9 : Int32) (x10 : Int32) (x11 : Int32) (s0 : Int32) (h : smH) : sm_E PP X 111 166 [(0, .ref x0), (1, .int x1), (2, .int x2), (3, .int x3), (4, .int x4), (5, .int x5), (6, .int x6), (7, .int x7), (8, .int x8), (9, .int x9), (10, .int x10), (11, .int x11)] [.int s0] h =
    if s0 = (-nI 9) then (sm_E PP X 111 236 [] [] h) else sm_vc h x0 7 (sm_cR (sm_C PP X 73 [.ref x0, .int x9, .int x10, .int (nI 1)] h) fun w1 h2 => sm_E PP X 111 180 [(0, .ref x0), (1, .int x1), (2, .int x2), (3, .int x3), (4, .int x4), (5, .int x5), (6, .int x6), (7, .int x7), (8, .int x8), (9, .int x9), (10, .int x10), (11, .int x11)] (w1.toList ++ []) h2) :=
  (sm_blk PP X 111 [0, 5, 11, 17, 36, 54, 62, 63, 74, 85, 89, 101, 112, 116, 125, 133, 155, 166, 180, 199, 215, 218, 225, 236, 238, 256, 265, 269, 286, 306, 310, 311, 317, 338, 348, 349] 190 166 _ _ _).trans rfl
set_option maxRecDepth 4000 in
theorem b111_236 (X : smX) (h : smH) : sm_E PP X 111 236 [] [] h =
    if narrow (sm_nk 1) (.int (nI 0)) = .int (nI 0) then some (some (.int (nI 0)), h) else none :=
  (sm_blk PP X 111 [0, 5, 11, 17, 36, 54, 62, 63, 74, 85, 89, 101, 112, 116, 125, 133, 155, 166, 180, 199, 215, 218, 225, 236, 238, 256, 265, 269, 286, 306, 310, 311, 317, 338, 348, 349] 190 236 _ _ _).trans rfl
set_option maxRecDepth 4000 in
theorem b111_180 (X : smX) (x0 : Nat) (x1 : Int32) (x2 : Int32) (x3 : Int32) (x4 : Int32) (x5 : Int32) (x6 : Int32) (x7 : Int32) (x8 : Int32) (x9 : Int32) (x10 : Int32) (x11 : Int32) (s0 : Int32) (h : smH) : sm_E PP X 111 180 [(0, .ref x0), (1, .int x1), (2, .int x2), (3, .int x3), (4, .int x4), (5, .int x5), (6, .int x6), (7, .int x7), (8, .int x8), (9, .int x9), (10, .int x10), (11, .int x11)] [.int s0] h =
    if s0 = (-nI 9) then (sm_E PP X 111 236 [] [] h) else if x11 = (-nI 9) then (sm_E PP X 111 199 [(0, .ref x0), (1, .int x1), (2, .int x2), (3, .int x3), (4, .int x4), (5, .int x5), (6, .int x6), (7, .int x7), (8, .int x8), (9, .int x9), (10, .int x10), (11, .int x11)] [] h) else if x11 = x10 then (sm_E PP X 111 199 [(0, .ref x0), (1, .int x1), (2, .int x2), (3, .int x3), (4, .int x4), (5, .int x5), (6, .int x6), (7, .int x7), (8, .int x8), (9, .int x9), (10, .int x10), (11, .int x11)] [] h) else sm_E PP X 111 236 [] [] h :=
  (sm_blk PP X 111 [0, 5, 11, 17, 36, 54, 62, 63, 74, 85, 89, 101, 112, 116, 125, 133, 155, 166, 180, 199, 215, 218, 225, 236, 238, 256, 265, 269, 286, 306, 310, 311, 317, 338, 348, 349] 190 180 _ _ _).trans rfl
set_option maxRecDepth 4000 in
theorem b111_199 (X : smX) (x0 : Nat) (x1 : Int32) (x2 : Int32) (x3 : Int32) (x4 : Int32) (x5 : Int32) (x6 : Int32) (x7 : Int32) (x8 : Int32) (x9 : Int32) (x10 : Int32) (x11 : Int32) (h : smH) : sm_E PP X 111 199 [(0, .ref x0), (1, .int x1), (2, .int x2), (3, .int x3), (4, .int x4), (5, .int x5), (6, .int x6), (7, .int x7), (8, .int x8), (9, .int x9), (10, .int x10), (11, .int x11)] [] h =
    if x2 = (-nI 9) then (sm_vc h x0 7 (sm_cR (sm_C PP X 78 [.ref x0, .int x9, .int (nI 0), .int (nI 0)] h) fun w1 h2 => sm_E PP X 111 215 [(0, .ref x0), (1, .int x1), (2, .int x2), (3, .int x3), (4, .int x4), (5, .int x5), (6, .int x6), (7, .int x7), (8, .int x8), (9, .int x9), (10, .int x10), (11, .int x11)] (w1.toList ++ [.int x10]) h2)) else sm_E PP X 111 218 [(0, .ref x0), (1, .int x1), (2, .int x2), (3, .int x3), (4, .int x4), (5, .int x5), (6, .int x6), (7, .int x7), (8, .int x8), (9, .int x9), (10, .int x10), (11, .int x11)] [] h :=
  (sm_blk PP X 111 [0, 5, 11, 17, 36, 54, 62, 63, 74, 85, 89, 101, 112, 116, 125, 133, 155, 166, 180, 199, 215, 218, 225, 236, 238, 256, 265, 269, 286, 306, 310, 311, 317, 338, 348, 349] 190 199 _ _ _).trans rfl
set_option maxRecDepth 4000 in
theorem b111_215 (X : smX) (x0 : Nat) (x1 : Int32) (x2 : Int32) (x3 : Int32) (x4 : Int32) (x5 : Int32) (x6 : Int32) (x7 : Int32) (x8 : Int32) (x9 : Int32) (x10 : Int32) (x11 : Int32) (s0 : Int32) (s1 : Int32) (h : smH) : sm_E PP X 111 215 [(0, .ref x0), (1, .int x1), (2, .int x2), (3, .int x3), (4, .int x4), (5, .int x5), (6, .int x6), (7, .int x7), (8, .int x8), (9, .int x9), (10, .int x10), (11, .int x11)] [.int s0, .int s1] h =
    if s1 = s0 then (sm_E PP X 111 218 [(0, .ref x0), (1, .int x1), (2, .int x2), (3, .int x3), (4, .int x4), (5, .int x5), (6, .int x6), (7, .int x7), (8, .int x8), (9, .int x9), (10, .int x10), (11, .int x11)] [] h) else sm_E PP X 111 236 [] [] h :=
  (sm_blk PP X 111 [0, 5, 11, 17, 36, 54, 62, 63, 74, 85, 89, 101, 112, 116, 125, 133, 155, 166, 180, 199, 215, 218, 225, 236, 238, 256, 265, 269, 286, 306, 310, 311, 317, 338, 348, 349] 190 215 _ _ _).trans rfl
set_option maxRecDepth 4000 in
theorem b111_218 (X : smX) (x0 : Nat) (x1 : Int32) (x2 : Int32) (x3 : Int32) (x4 : Int32) (x5 : Int32) (x6 : Int32) (x7 : Int32) (x8 : Int32) (x9 : Int32) (x10 : Int32) (x11 : Int32) (h : smH) : sm_E PP X 111 218 [(0, .ref x0), (1, .int x1), (2, .int x2), (3, .int x3), (4, .int x4), (5, .int x5), (6, .int x6), (7, .int x7), (8, .int x8), (9, .int x9), (10, .int x10), (11, .int x11)] [] h =
    sm_vc h x0 7 (sm_cR (sm_C PP X 71 [.ref x0, .int x9, .int (nI 5)] h) fun w1 h2 => sm_E PP X 111 225 [(0, .ref x0), (1, .int x1), (2, .int x2), (3, .int x3), (4, .int x4), (5, .int x5), (6, .int x6), (7, .int x7), (8, .int x8), (9, .int x9), (10, .int x10), (11, .int x11)] (w1.toList ++ []) h2) :=
  (sm_blk PP X 111 [0, 5, 11, 17, 36, 54, 62, 63, 74, 85, 89, 101, 112, 116, 125, 133, 155, 166, 180, 199, 215, 218, 225, 236, 238, 256, 265, 269, 286, 306, 310, 311, 317, 338, 348, 349] 190 218 _ _ _).trans rfl
set_option maxRecDepth 4000 in
theorem b111_225 (X : smX) (x0 : Nat) (x1 : Int32) (x2 : Int32) (x3 : Int32) (x4 : Int32) (x5 : Int32) (x6 : Int32) (x7 : Int32) (x8 : Int32) (x9 : Int32) (x10 : Int32) (x11 : Int32) (s0 : Int32) (h : smH) : sm_E PP X 111 225 [(0, .ref x0), (1, .int x1), (2, .int x2), (3, .int x3), (4, .int x4), (5, .int x5), (6, .int x6), (7, .int x7), (8, .int x8), (9, .int x9), (10, .int x10), (11, .int x11)] [.int s0] h =
    if s0 = (nI 1) then (if x11 = x10 then (sm_E PP X 111 238 [(0, .ref x0), (1, .int x1), (2, .int x2), (3, .int x3), (4, .int x4), (5, .int x5), (6, .int x6), (7, .int x7), (8, .int x8), (9, .int x9), (10, .int x10)] [] h) else sm_E PP X 111 236 [] [] h) else sm_E PP X 111 238 [(0, .ref x0), (1, .int x1), (2, .int x2), (3, .int x3), (4, .int x4), (5, .int x5), (6, .int x6), (7, .int x7), (8, .int x8), (9, .int x9), (10, .int x10)] [] h :=
  (sm_blk PP X 111 [0, 5, 11, 17, 36, 54, 62, 63, 74, 85, 89, 101, 112, 116, 125, 133, 155, 166, 180, 199, 215, 218, 225, 236, 238, 256, 265, 269, 286, 306, 310, 311, 317, 338, 348, 349] 190 225 _ _ _).trans rfl
set_option maxRecDepth 4000 in
theorem b111_238 (X : smX) (x0 : Nat) (x1 : Int32) (x2 : Int32) (x3 : Int32) (x4 : Int32) (x5 : Int32) (x6 : Int32) (x7 : Int32) (x8 : Int32) (x9 : Int32) (x10 : Int32) (h : smH) : sm_E PP X 111 238 [(0, .ref x0), (1, .int x1), (2, .int x2), (3, .int x3), (4, .int x4), (5, .int x5), (6, .int x6), (7, .int x7), (8, .int x8), (9, .int x9), (10, .int x10)] [] h =
    sm_vc h x0 7 (sm_cR (sm_C PP X 73 [.ref x0, .int x9, .int x10, .int (nI 0)] h) fun w1 h2 => sm_E PP X 111 256 [(0, .ref x0), (1, .int x1), (2, .int x2), (3, .int x3), (4, .int (x4 + x10)), (6, .int x6), (7, .int x7), (8, .int x8), (9, .int x9), (10, .int x10)] (w1.toList ++ [.int x5]) h2) :=
  (sm_blk PP X 111 [0, 5, 11, 17, 36, 54, 62, 63, 74, 85, 89, 101, 112, 116, 125, 133, 155, 166, 180, 199, 215, 218, 225, 236, 238, 256, 265, 269, 286, 306, 310, 311, 317, 338, 348, 349] 190 238 _ _ _).trans rfl
set_option maxRecDepth 4000 in
theorem b111_256 (X : smX) (x0 : Nat) (x1 : Int32) (x2 : Int32) (x3 : Int32) (x4 : Int32) (x6 : Int32) (x7 : Int32) (x8 : Int32) (x9 : Int32) (x10 : Int32) (s0 : Int32) (s1 : Int32) (h : smH) : sm_E PP X 111 256 [(0, .ref x0), (1, .int x1), (2, .int x2), (3, .int x3), (4, .int x4), (6, .int x6), (7, .int x7), (8, .int x8), (9, .int x9), (10, .int x10)] [.int s0, .int s1] h =
    sm_vc h x0 7 (sm_cR (sm_C PP X 73 [.ref x0, .int x9, .int x10, .int (nI 1)] h) fun w1 h2 => sm_E PP X 111 265 [(0, .ref x0), (1, .int x1), (2, .int x2), (3, .int x3), (4, .int x4), (6, .int x6), (7, .int x7), (8, .int x8), (9, .int x9)] (w1.toList ++ [.int s0, .int s1]) h2) :=
  (sm_blk PP X 111 [0, 5, 11, 17, 36, 54, 62, 63, 74, 85, 89, 101, 112, 116, 125, 133, 155, 166, 180, 199, 215, 218, 225, 236, 238, 256, 265, 269, 286, 306, 310, 311, 317, 338, 348, 349] 190 256 _ _ _).trans rfl
set_option maxRecDepth 4000 in
theorem b111_265 (X : smX) (x0 : Nat) (x1 : Int32) (x2 : Int32) (x3 : Int32) (x4 : Int32) (x6 : Int32) (x7 : Int32) (x8 : Int32) (x9 : Int32) (s0 : Int32) (s1 : Int32) (s2 : Int32) (h : smH) : sm_E PP X 111 265 [(0, .ref x0), (1, .int x1), (2, .int x2), (3, .int x3), (4, .int x4), (6, .int x6), (7, .int x7), (8, .int x8), (9, .int x9)] [.int s0, .int s1, .int s2] h =
    sm_E PP X 111 269 [(0, .ref x0), (1, .int x1), (2, .int x2), (3, .int x3), (4, .int x4), (5, .int (s2 + (s1 + s0))), (6, .int x6), (7, .int x7), (8, .int x8), (9, .int x9)] [] h :=
  (sm_blk PP X 111 [0, 5, 11, 17, 36, 54, 62, 63, 74, 85, 89, 101, 112, 116, 125, 133, 155, 166, 180, 199, 215, 218, 225, 236, 238, 256, 265, 269, 286, 306, 310, 311, 317, 338, 348, 349] 190 265 _ _ _).trans rfl
/-! 112: WornSumsLaw.type(LWornSums;II)Z -/
theorem c112 (X : smX) (x0 : Nat) (x1 : Int32) (x2 : Int32) (h : smH) : sm_C PP X 112 [.ref x0, .int x1, .int x2] h = sm_E PP X 112 0 [(0, .ref x0), (1, .int x1), (2, .int x2)] [] h := rfl
set_option maxRecDepth 4000 in
theorem b112_0 (X : smX) (x0 : Nat) (x1 : Int32) (x2 : Int32) (h : smH) : sm_E PP X 112 0 [(0, .ref x0), (1, .int x1), (2, .int x2)] [] h =
    sm_cR (sm_C PP X 108 [.int x1, .int (nI 1000)] h) fun w1 h2 => sm_E PP X 112 7 [(0, .ref x0), (2, .int x2)] (w1.toList ++ []) h2 :=
  (sm_blk PP X 112 [0, 7, 12, 20, 28, 33, 47, 80, 82, 85, 96, 97, 116, 127, 128, 140, 172, 177, 212, 215, 218, 222, 223, 240, 246, 271, 272, 293, 306, 318, 325, 326] 171 0 _ _ _).trans rfl
set_option maxRecDepth 4000 in
theorem b112_7 (X : smX) (x0 : Nat) (x2 : Int32) (s0 : Int32) (h : smH) : sm_E PP X 112 7 [(0, .ref x0), (2, .int x2)] [.int s0] h =
    sm_vc h x0 7 (sm_cR (sm_C PP X 29 [.ref x0] h) fun w1 h2 => sm_E PP X 112 12 [(0, .ref x0), (2, .int x2), (3, .int s0)] (w1.toList ++ []) h2) :=
  (sm_blk PP X 112 [0, 7, 12, 20, 28, 33, 47, 80, 82, 85, 96, 97, 116, 127, 128, 140, 172, 177, 212, 215, 218, 222, 223, 240, 246, 271, 272, 293, 306, 318, 325, 326] 171 7 _ _ _).trans rfl
set_option maxRecDepth 4000 in
theorem b112_12 (X : smX) (x0 : Nat) (x2 : Int32) (x3 : Int32) (s0 : Int32) (h : smH) : sm_E PP X 112 12 [(0, .ref x0), (2, .int x2), (3, .int x3)] [.int s0] h =
    if s0 < 0 then (sm_E PP X 112 20 [(0, .ref x0), (2, .int x2), (3, .int x3)] [.int (nI 0)] h) else sm_E PP X 112 20 [(0, .ref x0), (2, .int x2), (3, .int x3)] [.int (nI 1)] h :=
  (sm_blk PP X 112 [0, 7, 12, 20, 28, 33, 47, 80, 82, 85, 96, 97, 116, 127, 128, 140, 172, 177, 212, 215, 218, 222, 223, 240, 246, 271, 272, 293, 306, 318, 325, 326] 171 12 _ _ _).trans rfl
set_option maxRecDepth 4000 in
theorem b112_20 (X : smX) (x0 : Nat) (x2 : Int32) (x3 : Int32) (s0 : Int32) (h : smH) : sm_E PP X 112 20 [(0, .ref x0), (2, .int x2), (3, .int x3)] [.int s0] h =
    sm_vc h x0 7 (sm_cR (sm_C PP X 79 [.ref x0, .int x3, .int (-nI 1)] h) fun w1 h2 => sm_E PP X 112 28 [(0, .ref x0), (2, .int x2), (3, .int x3), (4, .int s0)] (w1.toList ++ []) h2) :=
  (sm_blk PP X 112 [0, 7, 12, 20, 28, 33, 47, 80, 82, 85, 96, 97, 116, 127, 128, 140, 172, 177, 212, 215, 218, 222, 223, 240, 246, 271, 272, 293, 306, 318, 325, 326] 171 20 _ _ _).trans rfl
set_option maxRecDepth 4000 in
theorem b112_28 (X : smX) (x0 : Nat) (x2 : Int32) (x3 : Int32) (x4 : Int32) (s0 : Int32) (h : smH) : sm_E PP X 112 28 [(0, .ref x0), (2, .int x2), (3, .int x3), (4, .int x4)] [.int s0] h =
    sm_E PP X 112 33 [(0, .ref x0), (2, .int x2), (3, .int x3), (4, .int x4), (5, .int s0), (6, .int (nI 0))] [] h :=
  (sm_blk PP X 112 [0, 7, 12, 20, 28, 33, 47, 80, 82, 85, 96, 97, 116, 127, 128, 140, 172, 177, 212, 215, 218, 222, 223, 240, 246, 271, 272, 293, 306, 318, 325, 326] 171 28 _ _ _).trans rfl
set_option maxRecDepth 4000 in
theorem b112_33 (X : smX) (x0 : Nat) (x2 : Int32) (x3 : Int32) (x4 : Int32) (x5 : Int32) (x6 : Int32) (h : smH) : sm_E PP X 112 33 [(0, .ref x0), (2, .int x2), (3, .int x3), (4, .int x4), (5, .int x5), (6, .int x6)] [] h =
    if x5 ≤ x6 then (if x4 = 0 then (sm_E PP X 112 127 [(0, .ref x0), (2, .int x2), (3, .int x3)] [] h) else sm_vc h x0 7 (sm_cR (sm_C PP X 28 [.ref x0, .int (nI 61)] h) fun w1 h2 => sm_E PP X 112 116 [(0, .ref x0), (2, .int x2), (3, .int x3), (5, .int x5)] (w1.toList ++ []) h2)) else sm_vc h x0 7 (sm_cR (sm_C PP X 79 [.ref x0, .int x3, .int x6] h) fun w3 h4 => sm_E PP X 112 47 [(0, .ref x0), (2, .int x2), (3, .int x3), (4, .int x4), (5, .int x5), (6, .int x6)] (w3.toList ++ []) h4) :=
  (sm_blk PP X 112 [0, 7, 12, 20, 28, 33, 47, 80, 82, 85, 96, 97, 116, 127, 128, 140, 172, 177, 212, 215, 218, 222, 223, 240, 246, 271, 272, 293, 306, 318, 325, 326] 171 33 _ _ _).trans rfl
set_option maxRecDepth 4000 in
theorem b112_127 (X : smX) (x0 : Nat) (x2 : Int32) (x3 : Int32) (h : smH) : sm_E PP X 112 127 [(0, .ref x0), (2, .int x2), (3, .int x3)] [] h =
    sm_E PP X 112 128 [(0, .ref x0), (2, .int x2), (3, .int x3)] [.int (nI 0)] h :=
  (sm_blk PP X 112 [0, 7, 12, 20, 28, 33, 47, 80, 82, 85, 96, 97, 116, 127, 128, 140, 172, 177, 212, 215, 218, 222, 223, 240, 246, 271, 272, 293, 306, 318, 325, 326] 171 127 _ _ _).trans rfl
set_option maxRecDepth 4000 in
theorem b112_116 (X : smX) (x0 : Nat) (x2 : Int32) (x3 : Int32) (x5 : Int32) (s0 : Int32) (h : smH) : sm_E PP X 112 116 [(0, .ref x0), (2, .int x2), (3, .int x3), (5, .int x5)] [.int s0] h =
    if s0 = (x5 + (nI 1)) then (sm_E PP X 112 128 [(0, .ref x0), (2, .int x2), (3, .int x3)] [.int (nI 1)] h) else sm_E PP X 112 127 [(0, .ref x0), (2, .int x2), (3, .int x3)] [] h :=
  (sm_blk PP X 112 [0, 7, 12, 20, 28, 33, 47, 80, 82, 85, 96, 97, 116, 127, 128, 140, 172, 177, 212, 215, 218, 222, 223, 240, 246, 271, 272, 293, 306, 318, 325, 326] 171 116 _ _ _).trans rfl
set_option maxRecDepth 4000 in
theorem b112_47 (X : smX) (x0 : Nat) (x2 : Int32) (x3 : Int32) (x4 : Int32) (x5 : Int32) (x6 : Int32) (s0 : Int32) (h : smH) : sm_E PP X 112 47 [(0, .ref x0), (2, .int x2), (3, .int x3), (4, .int x4), (5, .int x5), (6, .int x6)] [.int s0] h =
    if x4 = 0 then (sm_E PP X 112 96 [(0, .ref x0), (2, .int x2), (3, .int x3), (5, .int x5), (6, .int x6)] [] h) else if s0 = (nI 32) then (sm_E PP X 112 80 [(0, .ref x0), (2, .int x2), (3, .int x3), (5, .int x5), (6, .int x6), (7, .int s0)] [.ref x0] h) else if (nI 11) = 0 then none else if ((x2 >>> ((x6 - x6 / (nI 11) * (nI 11)) &&& 31)) &&& (nI 7)) = 0 then (sm_E PP X 112 82 [(0, .ref x0), (2, .int x2), (3, .int x3), (5, .int x5), (6, .int x6)] [.int (nI 63), .ref x0] h) else sm_E PP X 112 80 [(0, .ref x0), (2, .int x2), (3, .int x3), (5, .int x5), (6, .int x6), (7, .int s0)] [.ref x0] h :=
  (sm_blk PP X 112 [0, 7, 12, 20, 28, 33, 47, 80, 82, 85, 96, 97, 116, 127, 128, 140, 172, 177, 212, 215, 218, 222, 223, 240, 246, 271, 272, 293, 306, 318, 325, 326] 171 47 _ _ _).trans rfl
set_option maxRecDepth 4000 in
theorem b112_128 (X : smX) (x0 : Nat) (x2 : Int32) (x3 : Int32) (s0 : Int32) (h : smH) : sm_E PP X 112 128 [(0, .ref x0), (2, .int x2), (3, .int x3)] [.int s0] h =
    sm_E PP X 112 140 [(0, .ref x0), (2, .int x2), (3, .int x3), (4, .int s0), (6, .int (nI 0)), (7, .int (nI 100)), (8, .int x3)] [] h :=
  (sm_blk PP X 112 [0, 7, 12, 20, 28, 33, 47, 80, 82, 85, 96, 97, 116, 127, 128, 140, 172, 177, 212, 215, 218, 222, 223, 240, 246, 271, 272, 293, 306, 318, 325, 326] 171 128 _ _ _).trans rfl
set_option maxRecDepth 4000 in
theorem b112_96 (X : smX) (x0 : Nat) (x2 : Int32) (x3 : Int32) (x5 : Int32) (x6 : Int32) (h : smH) : sm_E PP X 112 96 [(0, .ref x0), (2, .int x2), (3, .int x3), (5, .int x5), (6, .int x6)] [] h =
    sm_E PP X 112 97 [(0, .ref x0), (2, .int x2), (3, .int x3), (5, .int x5), (6, .int x6)] [.int (nI 0)] h :=
  (sm_blk PP X 112 [0, 7, 12, 20, 28, 33, 47, 80, 82, 85, 96, 97, 116, 127, 128, 140, 172, 177, 212, 215, 218, 222, 223, 240, 246, 271, 272, 293, 306, 318, 325, 326] 171 96 _ _ _).trans rfl
set_option maxRecDepth 4000 in
theorem b112_80 (X : smX) (x0 : Nat) (x2 : Int32) (x3 : Int32) (x5 : Int32) (x6 : Int32) (x7 : Int32) (s0 : Nat) (h : smH) : sm_E PP X 112 80 [(0, .ref x0), (2, .int x2), (3, .int x3), (5, .int x5), (6, .int x6), (7, .int x7)] [.ref s0] h =
    sm_E PP X 112 82 [(0, .ref x0), (2, .int x2), (3, .int x3), (5, .int x5), (6, .int x6)] [.int x7, .ref s0] h :=
  (sm_blk PP X 112 [0, 7, 12, 20, 28, 33, 47, 80, 82, 85, 96, 97, 116, 127, 128, 140, 172, 177, 212, 215, 218, 222, 223, 240, 246, 271, 272, 293, 306, 318, 325, 326] 171 80 _ _ _).trans rfl
set_option maxRecDepth 4000 in
theorem b112_82 (X : smX) (x0 : Nat) (x2 : Int32) (x3 : Int32) (x5 : Int32) (x6 : Int32) (s0 : Int32) (s1 : Nat) (h : smH) : sm_E PP X 112 82 [(0, .ref x0), (2, .int x2), (3, .int x3), (5, .int x5), (6, .int x6)] [.int s0, .ref s1] h =
    sm_vc h s1 7 (sm_cR (sm_C PP X 28 [.ref s1, .int s0] h) fun w1 h2 => sm_E PP X 112 85 [(0, .ref x0), (2, .int x2), (3, .int x3), (5, .int x5), (6, .int x6)] (w1.toList ++ []) h2) :=
  (sm_blk PP X 112 [0, 7, 12, 20, 28, 33, 47, 80, 82, 85, 96, 97, 116, 127, 128, 140, 172, 177, 212, 215, 218, 222, 223, 240, 246, 271, 272, 293, 306, 318, 325, 326] 171 82 _ _ _).trans rfl
set_option maxRecDepth 4000 in
theorem b112_140 (X : smX) (x0 : Nat) (x2 : Int32) (x3 : Int32) (x4 : Int32) (x6 : Int32) (x7 : Int32) (x8 : Int32) (h : smH) : sm_E PP X 112 140 [(0, .ref x0), (2, .int x2), (3, .int x3), (4, .int x4), (6, .int x6), (7, .int x7), (8, .int x8)] [] h =
    if x7 ≤ 0 then (sm_vc h x0 7 (sm_cR (sm_C PP X 105 [.ref x0, .int (nI 0)] h) fun w1 h2 => sm_E PP X 112 240 [(0, .ref x0), (3, .int x3), (4, .int x4)] (w1.toList ++ []) h2)) else if x7 = 0 then none else if x7 = 0 then none else if 0 < (x8 / x7) then (sm_E PP X 112 172 [(0, .ref x0), (2, .int x2), (3, .int x3), (4, .int x4), (7, .int x7), (8, .int (x8 - x8 / x7 * x7)), (9, .int (x8 / x7))] [.int x6] h) else if x7 = (nI 1) then (sm_E PP X 112 172 [(0, .ref x0), (2, .int x2), (3, .int x3), (4, .int x4), (7, .int x7), (8, .int (x8 - x8 / x7 * x7)), (9, .int (x8 / x7))] [.int x6] h) else sm_E PP X 112 177 [(0, .ref x0), (2, .int x2), (3, .int x3), (4, .int x4), (7, .int x7), (8, .int (x8 - x8 / x7 * x7)), (9, .int (x8 / x7))] [.int (nI 0), .int x6] h :=
  (sm_blk PP X 112 [0, 7, 12, 20, 28, 33, 47, 80, 82, 85, 96, 97, 116, 127, 128, 140, 172, 177, 212, 215, 218, 222, 223, 240, 246, 271, 272, 293, 306, 318, 325, 326] 171 140 _ _ _).trans rfl
set_option maxRecDepth 4000 in
theorem b112_97 (X : smX) (x0 : Nat) (x2 : Int32) (x3 : Int32) (x5 : Int32) (x6 : Int32) (s0 : Int32) (h : smH) : sm_E PP X 112 97 [(0, .ref x0), (2, .int x2), (3, .int x3), (5, .int x5), (6, .int x6)] [.int s0] h =
    sm_E PP X 112 33 [(0, .ref x0), (2, .int x2), (3, .int x3), (4, .int s0), (5, .int x5), (6, .int (x6 + (nI 1)))] [] h :=
  (sm_blk PP X 112 [0, 7, 12, 20, 28, 33, 47, 80, 82, 85, 96, 97, 116, 127, 128, 140, 172, 177, 212, 215, 218, 222, 223, 240, 246, 271, 272, 293, 306, 318, 325, 326] 171 97 _ _ _).trans rfl
set_option maxRecDepth 4000 in
theorem b112_85 (X : smX) (x0 : Nat) (x2 : Int32) (x3 : Int32) (x5 : Int32) (x6 : Int32) (s0 : Int32) (h : smH) : sm_E PP X 112 85 [(0, .ref x0), (2, .int x2), (3, .int x3), (5, .int x5), (6, .int x6)] [.int s0] h =
    if s0 = (x6 + (nI 1)) then (sm_E PP X 112 97 [(0, .ref x0), (2, .int x2), (3, .int x3), (5, .int x5), (6, .int x6)] [.int (nI 1)] h) else sm_E PP X 112 96 [(0, .ref x0), (2, .int x2), (3, .int x3), (5, .int x5), (6, .int x6)] [] h :=
  (sm_blk PP X 112 [0, 7, 12, 20, 28, 33, 47, 80, 82, 85, 96, 97, 116, 127, 128, 140, 172, 177, 212, 215, 218, 222, 223, 240, 246, 271, 272, 293, 306, 318, 325, 326] 171 85 _ _ _).trans rfl
set_option maxRecDepth 4000 in
theorem b112_240 (X : smX) (x0 : Nat) (x3 : Int32) (x4 : Int32) (s0 : Int32) (h : smH) : sm_E PP X 112 240 [(0, .ref x0), (3, .int x3), (4, .int x4)] [.int s0] h =
    sm_vc h x0 7 (sm_cR (sm_C PP X 47 [.ref x0] h) fun w1 h2 => sm_E PP X 112 246 [(0, .ref x0), (3, .int x3), (4, .int x4), (7, .int s0)] (w1.toList ++ []) h2) :=
  (sm_blk PP X 112 [0, 7, 12, 20, 28, 33, 47, 80, 82, 85, 96, 97, 116, 127, 128, 140, 172, 177, 212, 215, 218, 222, 223, 240, 246, 271, 272, 293, 306, 318, 325, 326] 171 240 _ _ _).trans rfl
set_option maxRecDepth 4000 in
theorem b112_172 (X : smX) (x0 : Nat) (x2 : Int32) (x3 : Int32) (x4 : Int32) (x7 : Int32) (x8 : Int32) (x9 : Int32) (s0 : Int32) (h : smH) : sm_E PP X 112 172 [(0, .ref x0), (2, .int x2), (3, .int x3), (4, .int x4), (7, .int x7), (8, .int x8), (9, .int x9)] [.int s0] h =
    sm_E PP X 112 177 [(0, .ref x0), (2, .int x2), (3, .int x3), (4, .int x4), (7, .int x7), (8, .int x8), (9, .int x9)] [.int (nI 1), .int s0] h :=
  (sm_blk PP X 112 [0, 7, 12, 20, 28, 33, 47, 80, 82, 85, 96, 97, 116, 127, 128, 140, 172, 177, 212, 215, 218, 222, 223, 240, 246, 271, 272, 293, 306, 318, 325, 326] 171 172 _ _ _).trans rfl
set_option maxRecDepth 4000 in
theorem b112_177 (X : smX) (x0 : Nat) (x2 : Int32) (x3 : Int32) (x4 : Int32) (x7 : Int32) (x8 : Int32) (x9 : Int32) (s0 : Int32) (s1 : Int32) (h : smH) : sm_E PP X 112 177 [(0, .ref x0), (2, .int x2), (3, .int x3), (4, .int x4), (7, .int x7), (8, .int x8), (9, .int x9)] [.int s0, .int s1] h =
    if x4 = 0 then (sm_E PP X 112 222 [(0, .ref x0), (2, .int x2), (3, .int x3), (6, .int (s1 ||| s0)), (7, .int x7), (8, .int x8)] [] h) else if (s1 ||| s0) = 0 then (sm_E PP X 112 218 [(0, .ref x0), (2, .int x2), (3, .int x3), (6, .int (s1 ||| s0)), (7, .int x7), (8, .int x8)] [] h) else if (nI 3) ≤ ((x2 >>> ((nI 12) &&& 31)) &&& (nI 15)) then (sm_E PP X 112 212 [(0, .ref x0), (2, .int x2), (3, .int x3), (6, .int (s1 ||| s0)), (7, .int x7), (8, .int x8)] [.int ((nI 48) + x9), .ref x0] h) else sm_E PP X 112 212 [(0, .ref x0), (2, .int x2), (3, .int x3), (6, .int (s1 ||| s0)), (7, .int x7), (8, .int x8)] [.int (nI 63), .ref x0] h :=
  (sm_blk PP X 112 [0, 7, 12, 20, 28, 33, 47, 80, 82, 85, 96, 97, 116, 127, 128, 140, 172, 177, 212, 215, 218, 222, 223, 240, 246, 271, 272, 293, 306, 318, 325, 326] 171 177 _ _ _).trans rfl
set_option maxRecDepth 4000 in
theorem b112_246 (X : smX) (x0 : Nat) (x3 : Int32) (x4 : Int32) (x7 : Int32) (s0 : Int32) (h : smH) : sm_E PP X 112 246 [(0, .ref x0), (3, .int x3), (4, .int x4), (7, .int x7)] [.int s0] h =
    if x7 = (nI 6) then (if x4 = 0 then (sm_E PP X 112 271 [] [] h) else if s0 = (-nI 3) then (sm_E PP X 112 272 [] [.int (nI 1)] h) else sm_E PP X 112 271 [] [] h) else if x4 = 0 then (sm_E PP X 112 325 [] [] h) else if s0 = x7 then (sm_vc h x0 7 (sm_cR (sm_C PP X 73 [.ref x0, .int x7, .int x3, .int (nI 0)] h) fun w1 h2 => sm_E PP X 112 293 [(0, .ref x0), (3, .int x3), (7, .int x7)] (w1.toList ++ []) h2)) else sm_E PP X 112 325 [] [] h :=
  (sm_blk PP X 112 [0, 7, 12, 20, 28, 33, 47, 80, 82, 85, 96, 97, 116, 127, 128, 140, 172, 177, 212, 215, 218, 222, 223, 240, 246, 271, 272, 293, 306, 318, 325, 326] 171 246 _ _ _).trans rfl
set_option maxRecDepth 4000 in
theorem b112_222 (X : smX) (x0 : Nat) (x2 : Int32) (x3 : Int32) (x6 : Int32) (x7 : Int32) (x8 : Int32) (h : smH) : sm_E PP X 112 222 [(0, .ref x0), (2, .int x2), (3, .int x3), (6, .int x6), (7, .int x7), (8, .int x8)] [] h =
    sm_E PP X 112 223 [(0, .ref x0), (2, .int x2), (3, .int x3), (6, .int x6), (7, .int x7), (8, .int x8)] [.int (nI 0)] h :=
  (sm_blk PP X 112 [0, 7, 12, 20, 28, 33, 47, 80, 82, 85, 96, 97, 116, 127, 128, 140, 172, 177, 212, 215, 218, 222, 223, 240, 246, 271, 272, 293, 306, 318, 325, 326] 171 222 _ _ _).trans rfl
set_option maxRecDepth 4000 in
theorem b112_218 (X : smX) (x0 : Nat) (x2 : Int32) (x3 : Int32) (x6 : Int32) (x7 : Int32) (x8 : Int32) (h : smH) : sm_E PP X 112 218 [(0, .ref x0), (2, .int x2), (3, .int x3), (6, .int x6), (7, .int x7), (8, .int x8)] [] h =
    sm_E PP X 112 223 [(0, .ref x0), (2, .int x2), (3, .int x3), (6, .int x6), (7, .int x7), (8, .int x8)] [.int (nI 1)] h :=
  (sm_blk PP X 112 [0, 7, 12, 20, 28, 33, 47, 80, 82, 85, 96, 97, 116, 127, 128, 140, 172, 177, 212, 215, 218, 222, 223, 240, 246, 271, 272, 293, 306, 318, 325, 326] 171 218 _ _ _).trans rfl
set_option maxRecDepth 4000 in
theorem b112_212 (X : smX) (x0 : Nat) (x2 : Int32) (x3 : Int32) (x6 : Int32) (x7 : Int32) (x8 : Int32) (s0 : Int32) (s1 : Nat) (h : smH) : sm_E PP X 112 212 [(0, .ref x0), (2, .int x2), (3, .int x3), (6, .int x6), (7, .int x7), (8, .int x8)] [.int s0, .ref s1] h =
    sm_vc h s1 7 (sm_cR (sm_C PP X 28 [.ref s1, .int s0] h) fun w1 h2 => sm_E PP X 112 215 [(0, .ref x0), (2, .int x2), (3, .int x3), (6, .int x6), (7, .int x7), (8, .int x8)] (w1.toList ++ []) h2) :=
  (sm_blk PP X 112 [0, 7, 12, 20, 28, 33, 47, 80, 82, 85, 96, 97, 116, 127, 128, 140, 172, 177, 212, 215, 218, 222, 223, 240, 246, 271, 272, 293, 306, 318, 325, 326] 171 212 _ _ _).trans rfl
set_option maxRecDepth 4000 in
theorem b112_271 (X : smX) (h : smH) : sm_E PP X 112 271 [] [] h =
    sm_E PP X 112 272 [] [.int (nI 0)] h :=
  (sm_blk PP X 112 [0, 7, 12, 20, 28, 33, 47, 80, 82, 85, 96, 97, 116, 127, 128, 140, 172, 177, 212, 215, 218, 222, 223, 240, 246, 271, 272, 293, 306, 318, 325, 326] 171 271 _ _ _).trans rfl
set_option maxRecDepth 4000 in
theorem b112_272 (X : smX) (s0 : Int32) (h : smH) : sm_E PP X 112 272 [] [.int s0] h =
    if narrow (sm_nk 1) (.int s0) = .int s0 then some (some (.int s0), h) else none :=
  (sm_blk PP X 112 [0, 7, 12, 20, 28, 33, 47, 80, 82, 85, 96, 97, 116, 127, 128, 140, 172, 177, 212, 215, 218, 222, 223, 240, 246, 271, 272, 293, 306, 318, 325, 326] 171 272 _ _ _).trans rfl
set_option maxRecDepth 4000 in
theorem b112_325 (X : smX) (h : smH) : sm_E PP X 112 325 [] [] h =
    sm_E PP X 112 326 [] [.int (nI 0)] h :=
  (sm_blk PP X 112 [0, 7, 12, 20, 28, 33, 47, 80, 82, 85, 96, 97, 116, 127, 128, 140, 172, 177, 212, 215, 218, 222, 223, 240, 246, 271, 272, 293, 306, 318, 325, 326] 171 325 _ _ _).trans rfl
set_option maxRecDepth 4000 in
theorem b112_293 (X : smX) (x0 : Nat) (x3 : Int32) (x7 : Int32) (s0 : Int32) (h : smH) : sm_E PP X 112 293 [(0, .ref x0), (3, .int x3), (7, .int x7)] [.int s0] h =
    if s0 = (-nI 9) then (sm_E PP X 112 325 [] [] h) else sm_vc h x0 7 (sm_cR (sm_C PP X 73 [.ref x0, .int x7, .int x3, .int (nI 1)] h) fun w1 h2 => sm_E PP X 112 306 [(0, .ref x0), (7, .int x7)] (w1.toList ++ []) h2) :=
  (sm_blk PP X 112 [0, 7, 12, 20, 28, 33, 47, 80, 82, 85, 96, 97, 116, 127, 128, 140, 172, 177, 212, 215, 218, 222, 223, 240, 246, 271, 272, 293, 306, 318, 325, 326] 171 293 _ _ _).trans rfl
set_option maxRecDepth 4000 in
theorem b112_223 (X : smX) (x0 : Nat) (x2 : Int32) (x3 : Int32) (x6 : Int32) (x7 : Int32) (x8 : Int32) (s0 : Int32) (h : smH) : sm_E PP X 112 223 [(0, .ref x0), (2, .int x2), (3, .int x3), (6, .int x6), (7, .int x7), (8, .int x8)] [.int s0] h =
    if (nI 10) = 0 then none else sm_E PP X 112 140 [(0, .ref x0), (2, .int x2), (3, .int x3), (4, .int s0), (6, .int x6), (7, .int (x7 / (nI 10))), (8, .int x8)] [] h :=
  (sm_blk PP X 112 [0, 7, 12, 20, 28, 33, 47, 80, 82, 85, 96, 97, 116, 127, 128, 140, 172, 177, 212, 215, 218, 222, 223, 240, 246, 271, 272, 293, 306, 318, 325, 326] 171 223 _ _ _).trans rfl
set_option maxRecDepth 4000 in
theorem b112_215 (X : smX) (x0 : Nat) (x2 : Int32) (x3 : Int32) (x6 : Int32) (x7 : Int32) (x8 : Int32) (s0 : Int32) (h : smH) : sm_E PP X 112 215 [(0, .ref x0), (2, .int x2), (3, .int x3), (6, .int x6), (7, .int x7), (8, .int x8)] [.int s0] h =
    if s0 ≤ 0 then (sm_E PP X 112 222 [(0, .ref x0), (2, .int x2), (3, .int x3), (6, .int x6), (7, .int x7), (8, .int x8)] [] h) else sm_E PP X 112 218 [(0, .ref x0), (2, .int x2), (3, .int x3), (6, .int x6), (7, .int x7), (8, .int x8)] [] h :=
  (sm_blk PP X 112 [0, 7, 12, 20, 28, 33, 47, 80, 82, 85, 96, 97, 116, 127, 128, 140, 172, 177, 212, 215, 218, 222, 223, 240, 246, 271, 272, 293, 306, 318, 325, 326] 171 215 _ _ _).trans rfl
set_option maxRecDepth 4000 in
theorem b112_326 (X : smX) (s0 : Int32) (h : smH) : sm_E PP X 112 326 [] [.int s0] h =
    if narrow (sm_nk 1) (.int s0) = .int s0 then some (some (.int s0), h) else none :=
  (sm_blk PP X 112 [0, 7, 12, 20, 28, 33, 47, 80, 82, 85, 96, 97, 116, 127, 128, 140, 172, 177, 212, 215, 218, 222, 223, 240, 246, 271, 272, 293, 306, 318, 325, 326] 171 326 _ _ _).trans rfl
set_option maxRecDepth 4000 in
theorem b112_306 (X : smX) (x0 : Nat) (x7 : Int32) (s0 : Int32) (h : smH) : sm_E PP X 112 306 [(0, .ref x0), (7, .int x7)] [.int s0] h =
    if s0 = (-nI 9) then (sm_E PP X 112 325 [] [] h) else sm_vc h x0 7 (sm_cR (sm_C PP X 71 [.ref x0, .int x7, .int (nI 5)] h) fun w1 h2 => sm_E PP X 112 318 [] (w1.toList ++ []) h2) :=
  (sm_blk PP X 112 [0, 7, 12, 20, 28, 33, 47, 80, 82, 85, 96, 97, 116, 127, 128, 140, 172, 177, 212, 215, 218, 222, 223, 240, 246, 271, 272, 293, 306, 318, 325, 326] 171 306 _ _ _).trans rfl
set_option maxRecDepth 4000 in
theorem b112_318 (X : smX) (s0 : Int32) (h : smH) : sm_E PP X 112 318 [] [.int s0] h =
    if s0 ≤ 0 then (sm_E PP X 112 325 [] [] h) else sm_E PP X 112 326 [] [.int (nI 1)] h :=
  (sm_blk PP X 112 [0, 7, 12, 20, 28, 33, 47, 80, 82, 85, 96, 97, 116, 127, 128, 140, 172, 177, 212, 215, 218, 222, 223, 240, 246, 271, 272, 293, 306, 318, 325, 326] 171 318 _ _ _).trans rfl
/-! 113: WornSumsLaw.does(LWornSums;II)I -/
theorem c113 (X : smX) (x0 : Nat) (x1 : Int32) (x2 : Int32) (h : smH) : sm_C PP X 113 [.ref x0, .int x1, .int x2] h = sm_E PP X 113 0 [(0, .ref x0), (1, .int x1), (2, .int x2)] [] h := rfl
set_option maxRecDepth 4000 in
theorem b113_0 (X : smX) (x0 : Nat) (x1 : Int32) (x2 : Int32) (h : smH) : sm_E PP X 113 0 [(0, .ref x0), (1, .int x1), (2, .int x2)] [] h =
    sm_cR (sm_C PP X 108 [.int x1, .int (nI 16)] h) fun w1 h2 => sm_E PP X 113 6 [(0, .ref x0), (1, .int x1), (2, .int x2)] (w1.toList ++ []) h2 :=
  (sm_blk PP X 113 [0, 6, 21, 38, 58, 86, 89, 107, 154, 169, 170, 173, 188, 212, 215, 254, 257, 264] 141 0 _ _ _).trans rfl
set_option maxRecDepth 4000 in
theorem b113_6 (X : smX) (x0 : Nat) (x1 : Int32) (x2 : Int32) (s0 : Int32) (h : smH) : sm_E PP X 113 6 [(0, .ref x0), (1, .int x1), (2, .int x2)] [.int s0] h =
    if ((x1 >>> ((nI 4) &&& 31)) &&& (nI 15)) = 0 then (sm_E PP X 113 21 [(0, .ref x0), (1, .int x1), (2, .int x2), (3, .int s0)] [.int (nI 1)] h) else sm_E PP X 113 21 [(0, .ref x0), (1, .int x1), (2, .int x2), (3, .int s0)] [.int (nI 0)] h :=
  (sm_blk PP X 113 [0, 6, 21, 38, 58, 86, 89, 107, 154, 169, 170, 173, 188, 212, 215, 254, 257, 264] 141 6 _ _ _).trans rfl
set_option maxRecDepth 4000 in
theorem b113_21 (X : smX) (x0 : Nat) (x1 : Int32) (x2 : Int32) (x3 : Int32) (s0 : Int32) (h : smH) : sm_E PP X 113 21 [(0, .ref x0), (1, .int x1), (2, .int x2), (3, .int x3)] [.int s0] h =
    if s0 = 0 then (sm_cR (sm_C PP X 108 [.int x2, .int (nI 6)] h) fun w1 h2 => sm_E PP X 113 38 [(0, .ref x0), (1, .int x1), (2, .int x2), (3, .int x3), (4, .int s0)] (w1.toList ++ []) h2) else sm_E PP X 113 38 [(0, .ref x0), (1, .int x1), (2, .int x2), (3, .int x3), (4, .int s0)] [.int x2] h :=
  (sm_blk PP X 113 [0, 6, 21, 38, 58, 86, 89, 107, 154, 169, 170, 173, 188, 212, 215, 254, 257, 264] 141 21 _ _ _).trans rfl
set_option maxRecDepth 4000 in
theorem b113_38 (X : smX) (x0 : Nat) (x1 : Int32) (x2 : Int32) (x3 : Int32) (x4 : Int32) (s0 : Int32) (h : smH) : sm_E PP X 113 38 [(0, .ref x0), (1, .int x1), (2, .int x2), (3, .int x3), (4, .int x4)] [.int s0] h =
    if x4 = 0 then (sm_E PP X 113 58 [(0, .ref x0), (1, .int x1), (2, .int x2), (3, .int x3), (4, .int x4), (5, .int s0)] [.int ((x1 >>> ((nI 8) &&& 31)) &&& (nI 1))] h) else sm_E PP X 113 58 [(0, .ref x0), (1, .int x1), (2, .int x2), (3, .int x3), (4, .int x4), (5, .int s0)] [.int (x1 >>> ((nI 8) &&& 31))] h :=
  (sm_blk PP X 113 [0, 6, 21, 38, 58, 86, 89, 107, 154, 169, 170, 173, 188, 212, 215, 254, 257, 264] 141 38 _ _ _).trans rfl
set_option maxRecDepth 4000 in
theorem b113_58 (X : smX) (x0 : Nat) (x1 : Int32) (x2 : Int32) (x3 : Int32) (x4 : Int32) (x5 : Int32) (s0 : Int32) (h : smH) : sm_E PP X 113 58 [(0, .ref x0), (1, .int x1), (2, .int x2), (3, .int x3), (4, .int x4), (5, .int x5)] [.int s0] h =
    if x4 = 0 then (if s0 = (nI 1) then (sm_E PP X 113 86 [(0, .ref x0), (1, .int x1), (2, .int x2), (3, .int x3), (4, .int x4), (5, .int x5), (6, .int s0)] [.int (nI 3), .int (x2 >>> ((nI 3) &&& 31))] h) else sm_E PP X 113 86 [(0, .ref x0), (1, .int x1), (2, .int x2), (3, .int x3), (4, .int x4), (5, .int x5), (6, .int s0)] [.int (nI 24), .int (x2 >>> ((nI 3) &&& 31))] h) else sm_E PP X 113 89 [(0, .ref x0), (1, .int x1), (2, .int x2), (3, .int x3), (4, .int x4), (5, .int x5), (6, .int s0)] [.int (x2 >>> ((nI 3) &&& 31))] h :=
  (sm_blk PP X 113 [0, 6, 21, 38, 58, 86, 89, 107, 154, 169, 170, 173, 188, 212, 215, 254, 257, 264] 141 58 _ _ _).trans rfl
set_option maxRecDepth 4000 in
theorem b113_86 (X : smX) (x0 : Nat) (x1 : Int32) (x2 : Int32) (x3 : Int32) (x4 : Int32) (x5 : Int32) (x6 : Int32) (s0 : Int32) (s1 : Int32) (h : smH) : sm_E PP X 113 86 [(0, .ref x0), (1, .int x1), (2, .int x2), (3, .int x3), (4, .int x4), (5, .int x5), (6, .int x6)] [.int s0, .int s1] h =
    sm_cR (sm_C PP X 108 [.int s1, .int s0] h) fun w1 h2 => sm_E PP X 113 89 [(0, .ref x0), (1, .int x1), (2, .int x2), (3, .int x3), (4, .int x4), (5, .int x5), (6, .int x6)] (w1.toList ++ []) h2 :=
  (sm_blk PP X 113 [0, 6, 21, 38, 58, 86, 89, 107, 154, 169, 170, 173, 188, 212, 215, 254, 257, 264] 141 86 _ _ _).trans rfl
set_option maxRecDepth 4000 in
theorem b113_89 (X : smX) (x0 : Nat) (x1 : Int32) (x2 : Int32) (x3 : Int32) (x4 : Int32) (x5 : Int32) (x6 : Int32) (s0 : Int32) (h : smH) : sm_E PP X 113 89 [(0, .ref x0), (1, .int x1), (2, .int x2), (3, .int x3), (4, .int x4), (5, .int x5), (6, .int x6)] [.int s0] h =
    if (nI 6) ≤ x3 then (if (nI 10) ≤ x3 then (if x3 = (nI 10) then (sm_vc h x0 7 (sm_cR (sm_C PP X 50 [.ref x0, .int x5] h) fun w1 h2 => sm_E PP X 113 188 [] (w1.toList ++ []) h2)) else if x3 = (nI 11) then (if x4 = 0 then (sm_cR (sm_C PP X 108 [.int x2, .int (nI 3)] h) fun w3 h4 => sm_E PP X 113 212 [] (w3.toList ++ [.ref x0]) h4) else sm_E PP X 113 212 [] [.int x2, .ref x0] h) else if (nI 14) ≤ x3 then (sm_vc h x0 7 (sm_cR (sm_C PP X 60 [.ref x0] h) fun w5 h6 => sm_E PP X 113 264 [] (w5.toList ++ []) h6)) else if x4 = 0 then (if (x2 &&& (nI 3)) = 0 then (sm_E PP X 113 254 [] [.int (-nI 9), .ref x0] h) else sm_cR (sm_C PP X 108 [.int (x2 >>> ((nI 2) &&& 31)), .int (nI 1800)] h) fun w7 h8 => sm_E PP X 113 254 [] (w7.toList ++ [.ref x0]) h8) else sm_E PP X 113 254 [] [.int x2, .ref x0] h) else if ((x1 >>> ((nI 12) &&& 31)) &&& (nI 15)) = 0 then (sm_E PP X 113 170 [] [.int x2, .int s0, .int x6, .int x5, .ref x0] h) else if x6 = (nI 1) then (sm_cR (sm_C PP X 108 [.int (x2 >>> ((nI 9) &&& 31)), .int (nI 10)] h) fun w9 h10 => sm_E PP X 113 154 [] (w9.toList ++ [.int (nI 48), .int s0, .int x6, .int x5, .ref x0]) h10) else sm_cR (sm_C PP X 108 [.int (x2 >>> ((nI 9) &&& 31)), .int (nI 26)] h) fun w11 h12 => sm_E PP X 113 169 [] (w11.toList ++ [.int (nI 97), .int s0, .int x6, .int x5, .ref x0]) h12) else sm_vc h x0 7 (sm_cR (sm_C PP X 52 [.ref x0, .int x5, .int x6, .int s0] h) fun w13 h14 => sm_E PP X 113 107 [] (w13.toList ++ []) h14) :=
  (sm_blk PP X 113 [0, 6, 21, 38, 58, 86, 89, 107, 154, 169, 170, 173, 188, 212, 215, 254, 257, 264] 141 89 _ _ _).trans rfl
set_option maxRecDepth 4000 in
theorem b113_188 (X : smX) (s0 : Int32) (h : smH) : sm_E PP X 113 188 [] [.int s0] h =
    sm_E PP X 113 264 [] [.int s0] h :=
  (sm_blk PP X 113 [0, 6, 21, 38, 58, 86, 89, 107, 154, 169, 170, 173, 188, 212, 215, 254, 257, 264] 141 188 _ _ _).trans rfl
set_option maxRecDepth 4000 in
theorem b113_212 (X : smX) (s0 : Int32) (s1 : Nat) (h : smH) : sm_E PP X 113 212 [] [.int s0, .ref s1] h =
    sm_vc h s1 7 (sm_cR (sm_C PP X 57 [.ref s1, .int s0] h) fun w1 h2 => sm_E PP X 113 215 [] (w1.toList ++ []) h2) :=
  (sm_blk PP X 113 [0, 6, 21, 38, 58, 86, 89, 107, 154, 169, 170, 173, 188, 212, 215, 254, 257, 264] 141 212 _ _ _).trans rfl
set_option maxRecDepth 4000 in
theorem b113_264 (X : smX) (s0 : Int32) (h : smH) : sm_E PP X 113 264 [] [.int s0] h =
    some (some (.int s0), h) :=
  (sm_blk PP X 113 [0, 6, 21, 38, 58, 86, 89, 107, 154, 169, 170, 173, 188, 212, 215, 254, 257, 264] 141 264 _ _ _).trans rfl
set_option maxRecDepth 4000 in
theorem b113_254 (X : smX) (s0 : Int32) (s1 : Nat) (h : smH) : sm_E PP X 113 254 [] [.int s0, .ref s1] h =
    sm_vc h s1 7 (sm_cR (sm_C PP X 58 [.ref s1, .int s0] h) fun w1 h2 => sm_E PP X 113 257 [] (w1.toList ++ []) h2) :=
  (sm_blk PP X 113 [0, 6, 21, 38, 58, 86, 89, 107, 154, 169, 170, 173, 188, 212, 215, 254, 257, 264] 141 254 _ _ _).trans rfl
set_option maxRecDepth 4000 in
theorem b113_170 (X : smX) (s0 : Int32) (s1 : Int32) (s2 : Int32) (s3 : Int32) (s4 : Nat) (h : smH) : sm_E PP X 113 170 [] [.int s0, .int s1, .int s2, .int s3, .ref s4] h =
    sm_vc h s4 7 (sm_cR (sm_C PP X 56 [.ref s4, .int s3, .int s2, .int s1, .int s0] h) fun w1 h2 => sm_E PP X 113 173 [] (w1.toList ++ []) h2) :=
  (sm_blk PP X 113 [0, 6, 21, 38, 58, 86, 89, 107, 154, 169, 170, 173, 188, 212, 215, 254, 257, 264] 141 170 _ _ _).trans rfl
set_option maxRecDepth 4000 in
theorem b113_154 (X : smX) (s0 : Int32) (s1 : Int32) (s2 : Int32) (s3 : Int32) (s4 : Int32) (s5 : Nat) (h : smH) : sm_E PP X 113 154 [] [.int s0, .int s1, .int s2, .int s3, .int s4, .ref s5] h =
    sm_E PP X 113 170 [] [.int (s1 + s0), .int s2, .int s3, .int s4, .ref s5] h :=
  (sm_blk PP X 113 [0, 6, 21, 38, 58, 86, 89, 107, 154, 169, 170, 173, 188, 212, 215, 254, 257, 264] 141 154 _ _ _).trans rfl
set_option maxRecDepth 4000 in
theorem b113_169 (X : smX) (s0 : Int32) (s1 : Int32) (s2 : Int32) (s3 : Int32) (s4 : Int32) (s5 : Nat) (h : smH) : sm_E PP X 113 169 [] [.int s0, .int s1, .int s2, .int s3, .int s4, .ref s5] h =
    sm_E PP X 113 170 [] [.int (s1 + s0), .int s2, .int s3, .int s4, .ref s5] h :=
  (sm_blk PP X 113 [0, 6, 21, 38, 58, 86, 89, 107, 154, 169, 170, 173, 188, 212, 215, 254, 257, 264] 141 169 _ _ _).trans rfl
set_option maxRecDepth 4000 in
theorem b113_107 (X : smX) (s0 : Int32) (h : smH) : sm_E PP X 113 107 [] [.int s0] h =
    sm_E PP X 113 264 [] [.int s0] h :=
  (sm_blk PP X 113 [0, 6, 21, 38, 58, 86, 89, 107, 154, 169, 170, 173, 188, 212, 215, 254, 257, 264] 141 107 _ _ _).trans rfl
set_option maxRecDepth 4000 in
theorem b113_215 (X : smX) (s0 : Int32) (h : smH) : sm_E PP X 113 215 [] [.int s0] h =
    sm_E PP X 113 264 [] [.int s0] h :=
  (sm_blk PP X 113 [0, 6, 21, 38, 58, 86, 89, 107, 154, 169, 170, 173, 188, 212, 215, 254, 257, 264] 141 215 _ _ _).trans rfl
set_option maxRecDepth 4000 in
theorem b113_257 (X : smX) (s0 : Int32) (h : smH) : sm_E PP X 113 257 [] [.int s0] h =
    sm_E PP X 113 264 [] [.int s0] h :=
  (sm_blk PP X 113 [0, 6, 21, 38, 58, 86, 89, 107, 154, 169, 170, 173, 188, 212, 215, 254, 257, 264] 141 257 _ _ _).trans rfl
set_option maxRecDepth 4000 in
theorem b113_173 (X : smX) (s0 : Int32) (h : smH) : sm_E PP X 113 173 [] [.int s0] h =
    sm_E PP X 113 264 [] [.int s0] h :=
  (sm_blk PP X 113 [0, 6, 21, 38, 58, 86, 89, 107, 154, 169, 170, 173, 188, 212, 215, 254, 257, 264] 141 173 _ _ _).trans rfl
/-! 114: WornSumsLaw.refused(LWornSums;II)Z -/
theorem c114 (X : smX) (x0 : Nat) (x1 : Int32) (x2 : Int32) (h : smH) : sm_C PP X 114 [.ref x0, .int x1, .int x2] h = sm_E PP X 114 0 [(0, .ref x0), (1, .int x1), (2, .int x2)] [] h := rfl
set_option maxRecDepth 4000 in
theorem b114_0 (X : smX) (x0 : Nat) (x1 : Int32) (x2 : Int32) (h : smH) : sm_E PP X 114 0 [(0, .ref x0), (1, .int x1), (2, .int x2)] [] h =
    sm_cR (sm_C PP X 109 [.ref x0] h) fun w1 h2 => sm_E PP X 114 4 [(0, .ref x0), (1, .int x1), (2, .int x2)] (w1.toList ++ []) h2 :=
  (sm_blk PP X 114 [0, 4, 11, 19, 22, 34, 47, 60, 76, 89, 100, 110, 113, 132, 135, 145, 148, 162, 174, 189, 200, 214, 225, 235, 244, 254, 257, 268, 277, 287, 300, 308, 309, 320, 331, 340, 341] 195 0 _ _ _).trans rfl
set_option maxRecDepth 4000 in
theorem b114_4 (X : smX) (x0 : Nat) (x1 : Int32) (x2 : Int32) (s0 : Int64) (h : smH) : sm_E PP X 114 4 [(0, .ref x0), (1, .int x1), (2, .int x2)] [.long s0] h =
    sm_vc h x0 7 (sm_cR (sm_C PP X 105 [.ref x0, .int (nI 6)] h) fun w1 h2 => sm_E PP X 114 11 [(0, .ref x0), (1, .int x1), (2, .int x2), (3, .long s0)] (w1.toList ++ []) h2) :=
  (sm_blk PP X 114 [0, 4, 11, 19, 22, 34, 47, 60, 76, 89, 100, 110, 113, 132, 135, 145, 148, 162, 174, 189, 200, 214, 225, 235, 244, 254, 257, 268, 277, 287, 300, 308, 309, 320, 331, 340, 341] 195 4 _ _ _).trans rfl
set_option maxRecDepth 4000 in
theorem b114_11 (X : smX) (x0 : Nat) (x1 : Int32) (x2 : Int32) (x3 : Int64) (s0 : Int32) (h : smH) : sm_E PP X 114 11 [(0, .ref x0), (1, .int x1), (2, .int x2), (3, .long x3)] [.int s0] h =
    sm_vc h x0 7 (sm_cR (sm_C PP X 105 [.ref x0, .int (nI 0)] h) fun w1 h2 => sm_E PP X 114 19 [(0, .ref x0), (1, .int x1), (2, .int x2), (3, .long x3), (5, .int s0)] (w1.toList ++ [.ref x0]) h2) :=
  (sm_blk PP X 114 [0, 4, 11, 19, 22, 34, 47, 60, 76, 89, 100, 110, 113, 132, 135, 145, 148, 162, 174, 189, 200, 214, 225, 235, 244, 254, 257, 268, 277, 287, 300, 308, 309, 320, 331, 340, 341] 195 11 _ _ _).trans rfl
set_option maxRecDepth 4000 in
theorem b114_19 (X : smX) (x0 : Nat) (x1 : Int32) (x2 : Int32) (x3 : Int64) (x5 : Int32) (s0 : Int32) (s1 : Nat) (h : smH) : sm_E PP X 114 19 [(0, .ref x0), (1, .int x1), (2, .int x2), (3, .long x3), (5, .int x5)] [.int s0, .ref s1] h =
    sm_vc h s1 7 (sm_cR (sm_C PP X 50 [.ref s1, .int s0] h) fun w1 h2 => sm_E PP X 114 22 [(0, .ref x0), (1, .int x1), (2, .int x2), (3, .long x3), (5, .int x5)] (w1.toList ++ []) h2) :=
  (sm_blk PP X 114 [0, 4, 11, 19, 22, 34, 47, 60, 76, 89, 100, 110, 113, 132, 135, 145, 148, 162, 174, 189, 200, 214, 225, 235, 244, 254, 257, 268, 277, 287, 300, 308, 309, 320, 331, 340, 341] 195 19 _ _ _).trans rfl
set_option maxRecDepth 4000 in
theorem b114_22 (X : smX) (x0 : Nat) (x1 : Int32) (x2 : Int32) (x3 : Int64) (x5 : Int32) (s0 : Int32) (h : smH) : sm_E PP X 114 22 [(0, .ref x0), (1, .int x1), (2, .int x2), (3, .long x3), (5, .int x5)] [.int s0] h =
    if s0 = (-nI 1) then (sm_vc h x0 7 (sm_cR (sm_C PP X 52 [.ref x0, .int (nI 6), .int (nI 0), .int (nI 0)] h) fun w1 h2 => sm_E PP X 114 34 [(0, .ref x0), (1, .int x1), (2, .int x2), (3, .long x3), (5, .int x5)] (w1.toList ++ []) h2)) else sm_E PP X 114 308 [(0, .ref x0), (3, .long x3), (5, .int x5)] [] h :=
  (sm_blk PP X 114 [0, 4, 11, 19, 22, 34, 47, 60, 76, 89, 100, 110, 113, 132, 135, 145, 148, 162, 174, 189, 200, 214, 225, 235, 244, 254, 257, 268, 277, 287, 300, 308, 309, 320, 331, 340, 341] 195 22 _ _ _).trans rfl
set_option maxRecDepth 4000 in
theorem b114_34 (X : smX) (x0 : Nat) (x1 : Int32) (x2 : Int32) (x3 : Int64) (x5 : Int32) (s0 : Int32) (h : smH) : sm_E PP X 114 34 [(0, .ref x0), (1, .int x1), (2, .int x2), (3, .long x3), (5, .int x5)] [.int s0] h =
    if s0 = (-nI 1) then (sm_vc h x0 7 (sm_cR (sm_C PP X 52 [.ref x0, .int (nI 0), .int (x1 ||| (nI 2)), .int (nI 0)] h) fun w1 h2 => sm_E PP X 114 47 [(0, .ref x0), (1, .int x1), (2, .int x2), (3, .long x3), (5, .int x5)] (w1.toList ++ []) h2)) else sm_E PP X 114 308 [(0, .ref x0), (3, .long x3), (5, .int x5)] [] h :=
  (sm_blk PP X 114 [0, 4, 11, 19, 22, 34, 47, 60, 76, 89, 100, 110, 113, 132, 135, 145, 148, 162, 174, 189, 200, 214, 225, 235, 244, 254, 257, 268, 277, 287, 300, 308, 309, 320, 331, 340, 341] 195 34 _ _ _).trans rfl
set_option maxRecDepth 4000 in
theorem b114_308 (X : smX) (x0 : Nat) (x3 : Int64) (x5 : Int32) (h : smH) : sm_E PP X 114 308 [(0, .ref x0), (3, .long x3), (5, .int x5)] [] h =
    sm_E PP X 114 309 [(0, .ref x0), (3, .long x3), (5, .int x5)] [.int (nI 0)] h :=
  (sm_blk PP X 114 [0, 4, 11, 19, 22, 34, 47, 60, 76, 89, 100, 110, 113, 132, 135, 145, 148, 162, 174, 189, 200, 214, 225, 235, 244, 254, 257, 268, 277, 287, 300, 308, 309, 320, 331, 340, 341] 195 308 _ _ _).trans rfl
set_option maxRecDepth 4000 in
theorem b114_47 (X : smX) (x0 : Nat) (x1 : Int32) (x2 : Int32) (x3 : Int64) (x5 : Int32) (s0 : Int32) (h : smH) : sm_E PP X 114 47 [(0, .ref x0), (1, .int x1), (2, .int x2), (3, .long x3), (5, .int x5)] [.int s0] h =
    if s0 = (-nI 1) then (sm_vc h x0 7 (sm_cR (sm_C PP X 56 [.ref x0, .int (-nI 1), .int (nI 0), .int (nI 0), .int (nI 97)] h) fun w1 h2 => sm_E PP X 114 60 [(0, .ref x0), (1, .int x1), (2, .int x2), (3, .long x3), (5, .int x5)] (w1.toList ++ []) h2)) else sm_E PP X 114 308 [(0, .ref x0), (3, .long x3), (5, .int x5)] [] h :=
  (sm_blk PP X 114 [0, 4, 11, 19, 22, 34, 47, 60, 76, 89, 100, 110, 113, 132, 135, 145, 148, 162, 174, 189, 200, 214, 225, 235, 244, 254, 257, 268, 277, 287, 300, 308, 309, 320, 331, 340, 341] 195 47 _ _ _).trans rfl
set_option maxRecDepth 4000 in
theorem b114_309 (X : smX) (x0 : Nat) (x3 : Int64) (x5 : Int32) (s0 : Int32) (h : smH) : sm_E PP X 114 309 [(0, .ref x0), (3, .long x3), (5, .int x5)] [.int s0] h =
    if s0 = 0 then (sm_E PP X 114 340 [] [] h) else sm_cR (sm_C PP X 109 [.ref x0] h) fun w1 h2 => sm_E PP X 114 320 [(0, .ref x0), (3, .long x3), (5, .int x5)] (w1.toList ++ []) h2 :=
  (sm_blk PP X 114 [0, 4, 11, 19, 22, 34, 47, 60, 76, 89, 100, 110, 113, 132, 135, 145, 148, 162, 174, 189, 200, 214, 225, 235, 244, 254, 257, 268, 277, 287, 300, 308, 309, 320, 331, 340, 341] 195 309 _ _ _).trans rfl
set_option maxRecDepth 4000 in
theorem b114_60 (X : smX) (x0 : Nat) (x1 : Int32) (x2 : Int32) (x3 : Int64) (x5 : Int32) (s0 : Int32) (h : smH) : sm_E PP X 114 60 [(0, .ref x0), (1, .int x1), (2, .int x2), (3, .long x3), (5, .int x5)] [.int s0] h =
    if s0 = (-nI 1) then (sm_vc h x0 7 (sm_cR (sm_C PP X 56 [.ref x0, .int (nI 0), .int (nI 0), .int (nI 0), .int (x2 ||| (nI 128))] h) fun w1 h2 => sm_E PP X 114 76 [(0, .ref x0), (1, .int x1), (2, .int x2), (3, .long x3), (5, .int x5)] (w1.toList ++ []) h2)) else sm_E PP X 114 308 [(0, .ref x0), (3, .long x3), (5, .int x5)] [] h :=
  (sm_blk PP X 114 [0, 4, 11, 19, 22, 34, 47, 60, 76, 89, 100, 110, 113, 132, 135, 145, 148, 162, 174, 189, 200, 214, 225, 235, 244, 254, 257, 268, 277, 287, 300, 308, 309, 320, 331, 340, 341] 195 60 _ _ _).trans rfl
set_option maxRecDepth 4000 in
theorem b114_340 (X : smX) (h : smH) : sm_E PP X 114 340 [] [] h =
    sm_E PP X 114 341 [] [.int (nI 0)] h :=
  (sm_blk PP X 114 [0, 4, 11, 19, 22, 34, 47, 60, 76, 89, 100, 110, 113, 132, 135, 145, 148, 162, 174, 189, 200, 214, 225, 235, 244, 254, 257, 268, 277, 287, 300, 308, 309, 320, 331, 340, 341] 195 340 _ _ _).trans rfl
set_option maxRecDepth 4000 in
theorem b114_320 (X : smX) (x0 : Nat) (x3 : Int64) (x5 : Int32) (s0 : Int64) (h : smH) : sm_E PP X 114 320 [(0, .ref x0), (3, .long x3), (5, .int x5)] [.long s0] h =
    if (lg_cmp s0 x3) = 0 then (sm_vc h x0 7 (sm_cR (sm_C PP X 105 [.ref x0, .int (nI 6)] h) fun w1 h2 => sm_E PP X 114 331 [(5, .int x5)] (w1.toList ++ []) h2)) else sm_E PP X 114 340 [] [] h :=
  (sm_blk PP X 114 [0, 4, 11, 19, 22, 34, 47, 60, 76, 89, 100, 110, 113, 132, 135, 145, 148, 162, 174, 189, 200, 214, 225, 235, 244, 254, 257, 268, 277, 287, 300, 308, 309, 320, 331, 340, 341] 195 320 _ _ _).trans rfl
set_option maxRecDepth 4000 in
theorem b114_76 (X : smX) (x0 : Nat) (x1 : Int32) (x2 : Int32) (x3 : Int64) (x5 : Int32) (s0 : Int32) (h : smH) : sm_E PP X 114 76 [(0, .ref x0), (1, .int x1), (2, .int x2), (3, .long x3), (5, .int x5)] [.int s0] h =
    if s0 = (-nI 1) then (sm_vc h x0 7 (sm_cR (sm_C PP X 56 [.ref x0, .int (nI 0), .int (nI 1), .int (nI 0), .int (nI 97)] h) fun w1 h2 => sm_E PP X 114 89 [(0, .ref x0), (1, .int x1), (2, .int x2), (3, .long x3), (5, .int x5)] (w1.toList ++ []) h2)) else sm_E PP X 114 308 [(0, .ref x0), (3, .long x3), (5, .int x5)] [] h :=
  (sm_blk PP X 114 [0, 4, 11, 19, 22, 34, 47, 60, 76, 89, 100, 110, 113, 132, 135, 145, 148, 162, 174, 189, 200, 214, 225, 235, 244, 254, 257, 268, 277, 287, 300, 308, 309, 320, 331, 340, 341] 195 76 _ _ _).trans rfl
set_option maxRecDepth 4000 in
theorem b114_341 (X : smX) (s0 : Int32) (h : smH) : sm_E PP X 114 341 [] [.int s0] h =
    if narrow (sm_nk 1) (.int s0) = .int s0 then some (some (.int s0), h) else none :=
  (sm_blk PP X 114 [0, 4, 11, 19, 22, 34, 47, 60, 76, 89, 100, 110, 113, 132, 135, 145, 148, 162, 174, 189, 200, 214, 225, 235, 244, 254, 257, 268, 277, 287, 300, 308, 309, 320, 331, 340, 341] 195 341 _ _ _).trans rfl
set_option maxRecDepth 4000 in
theorem b114_331 (X : smX) (x5 : Int32) (s0 : Int32) (h : smH) : sm_E PP X 114 331 [(5, .int x5)] [.int s0] h =
    if s0 = x5 then (sm_E PP X 114 341 [] [.int (nI 1)] h) else sm_E PP X 114 340 [] [] h :=
  (sm_blk PP X 114 [0, 4, 11, 19, 22, 34, 47, 60, 76, 89, 100, 110, 113, 132, 135, 145, 148, 162, 174, 189, 200, 214, 225, 235, 244, 254, 257, 268, 277, 287, 300, 308, 309, 320, 331, 340, 341] 195 331 _ _ _).trans rfl
set_option maxRecDepth 4000 in
theorem b114_89 (X : smX) (x0 : Nat) (x1 : Int32) (x2 : Int32) (x3 : Int64) (x5 : Int32) (s0 : Int32) (h : smH) : sm_E PP X 114 89 [(0, .ref x0), (1, .int x1), (2, .int x2), (3, .long x3), (5, .int x5)] [.int s0] h =
    if s0 = (-nI 1) then (sm_vc h x0 7 (sm_cR (sm_C PP X 57 [.ref x0, .int (x1 ||| (nI 4))] h) fun w1 h2 => sm_E PP X 114 100 [(0, .ref x0), (1, .int x1), (2, .int x2), (3, .long x3), (5, .int x5)] (w1.toList ++ []) h2)) else sm_E PP X 114 308 [(0, .ref x0), (3, .long x3), (5, .int x5)] [] h :=
  (sm_blk PP X 114 [0, 4, 11, 19, 22, 34, 47, 60, 76, 89, 100, 110, 113, 132, 135, 145, 148, 162, 174, 189, 200, 214, 225, 235, 244, 254, 257, 268, 277, 287, 300, 308, 309, 320, 331, 340, 341] 195 89 _ _ _).trans rfl
set_option maxRecDepth 4000 in
theorem b114_100 (X : smX) (x0 : Nat) (x1 : Int32) (x2 : Int32) (x3 : Int64) (x5 : Int32) (s0 : Int32) (h : smH) : sm_E PP X 114 100 [(0, .ref x0), (1, .int x1), (2, .int x2), (3, .long x3), (5, .int x5)] [.int s0] h =
    if s0 = (-nI 1) then (sm_vc h x0 7 (sm_cR (sm_C PP X 105 [.ref x0, .int (nI 2)] h) fun w1 h2 => sm_E PP X 114 110 [(0, .ref x0), (1, .int x1), (2, .int x2), (3, .long x3), (5, .int x5)] (w1.toList ++ [.ref x0]) h2)) else sm_E PP X 114 308 [(0, .ref x0), (3, .long x3), (5, .int x5)] [] h :=
  (sm_blk PP X 114 [0, 4, 11, 19, 22, 34, 47, 60, 76, 89, 100, 110, 113, 132, 135, 145, 148, 162, 174, 189, 200, 214, 225, 235, 244, 254, 257, 268, 277, 287, 300, 308, 309, 320, 331, 340, 341] 195 100 _ _ _).trans rfl
set_option maxRecDepth 4000 in
theorem b114_110 (X : smX) (x0 : Nat) (x1 : Int32) (x2 : Int32) (x3 : Int64) (x5 : Int32) (s0 : Int32) (s1 : Nat) (h : smH) : sm_E PP X 114 110 [(0, .ref x0), (1, .int x1), (2, .int x2), (3, .long x3), (5, .int x5)] [.int s0, .ref s1] h =
    sm_vc h s1 7 (sm_cR (sm_C PP X 57 [.ref s1, .int s0] h) fun w1 h2 => sm_E PP X 114 113 [(0, .ref x0), (1, .int x1), (2, .int x2), (3, .long x3), (5, .int x5)] (w1.toList ++ []) h2) :=
  (sm_blk PP X 114 [0, 4, 11, 19, 22, 34, 47, 60, 76, 89, 100, 110, 113, 132, 135, 145, 148, 162, 174, 189, 200, 214, 225, 235, 244, 254, 257, 268, 277, 287, 300, 308, 309, 320, 331, 340, 341] 195 110 _ _ _).trans rfl
set_option maxRecDepth 4000 in
theorem b114_113 (X : smX) (x0 : Nat) (x1 : Int32) (x2 : Int32) (x3 : Int64) (x5 : Int32) (s0 : Int32) (h : smH) : sm_E PP X 114 113 [(0, .ref x0), (1, .int x1), (2, .int x2), (3, .long x3), (5, .int x5)] [.int s0] h =
    if s0 = (-nI 2) then (if (-nI 9) ≤ x2 then (sm_E PP X 114 132 [(0, .ref x0), (1, .int x1), (2, .int x2), (3, .long x3), (5, .int x5)] [.int (nI 10000), .ref x0] h) else sm_E PP X 114 132 [(0, .ref x0), (1, .int x1), (2, .int x2), (3, .long x3), (5, .int x5)] [.int x2, .ref x0] h) else sm_E PP X 114 308 [(0, .ref x0), (3, .long x3), (5, .int x5)] [] h :=
  (sm_blk PP X 114 [0, 4, 11, 19, 22, 34, 47, 60, 76, 89, 100, 110, 113, 132, 135, 145, 148, 162, 174, 189, 200, 214, 225, 235, 244, 254, 257, 268, 277, 287, 300, 308, 309, 320, 331, 340, 341] 195 113 _ _ _).trans rfl
set_option maxRecDepth 4000 in
theorem b114_132 (X : smX) (x0 : Nat) (x1 : Int32) (x2 : Int32) (x3 : Int64) (x5 : Int32) (s0 : Int32) (s1 : Nat) (h : smH) : sm_E PP X 114 132 [(0, .ref x0), (1, .int x1), (2, .int x2), (3, .long x3), (5, .int x5)] [.int s0, .ref s1] h =
    sm_vc h s1 7 (sm_cR (sm_C PP X 58 [.ref s1, .int s0] h) fun w1 h2 => sm_E PP X 114 135 [(0, .ref x0), (1, .int x1), (2, .int x2), (3, .long x3), (5, .int x5)] (w1.toList ++ []) h2) :=
  (sm_blk PP X 114 [0, 4, 11, 19, 22, 34, 47, 60, 76, 89, 100, 110, 113, 132, 135, 145, 148, 162, 174, 189, 200, 214, 225, 235, 244, 254, 257, 268, 277, 287, 300, 308, 309, 320, 331, 340, 341] 195 132 _ _ _).trans rfl
set_option maxRecDepth 4000 in
theorem b114_135 (X : smX) (x0 : Nat) (x1 : Int32) (x2 : Int32) (x3 : Int64) (x5 : Int32) (s0 : Int32) (h : smH) : sm_E PP X 114 135 [(0, .ref x0), (1, .int x1), (2, .int x2), (3, .long x3), (5, .int x5)] [.int s0] h =
    if s0 = (-nI 1) then (sm_vc h x0 7 (sm_cR (sm_C PP X 105 [.ref x0, .int (nI 3)] h) fun w1 h2 => sm_E PP X 114 145 [(0, .ref x0), (1, .int x1), (2, .int x2), (3, .long x3), (5, .int x5)] (w1.toList ++ [.ref x0]) h2)) else sm_E PP X 114 308 [(0, .ref x0), (3, .long x3), (5, .int x5)] [] h :=
  (sm_blk PP X 114 [0, 4, 11, 19, 22, 34, 47, 60, 76, 89, 100, 110, 113, 132, 135, 145, 148, 162, 174, 189, 200, 214, 225, 235, 244, 254, 257, 268, 277, 287, 300, 308, 309, 320, 331, 340, 341] 195 135 _ _ _).trans rfl
set_option maxRecDepth 4000 in
theorem b114_145 (X : smX) (x0 : Nat) (x1 : Int32) (x2 : Int32) (x3 : Int64) (x5 : Int32) (s0 : Int32) (s1 : Nat) (h : smH) : sm_E PP X 114 145 [(0, .ref x0), (1, .int x1), (2, .int x2), (3, .long x3), (5, .int x5)] [.int s0, .ref s1] h =
    sm_vc h s1 7 (sm_cR (sm_C PP X 58 [.ref s1, .int s0] h) fun w1 h2 => sm_E PP X 114 148 [(0, .ref x0), (1, .int x1), (2, .int x2), (3, .long x3), (5, .int x5)] (w1.toList ++ []) h2) :=
  (sm_blk PP X 114 [0, 4, 11, 19, 22, 34, 47, 60, 76, 89, 100, 110, 113, 132, 135, 145, 148, 162, 174, 189, 200, 214, 225, 235, 244, 254, 257, 268, 277, 287, 300, 308, 309, 320, 331, 340, 341] 195 145 _ _ _).trans rfl
set_option maxRecDepth 4000 in
theorem b114_148 (X : smX) (x0 : Nat) (x1 : Int32) (x2 : Int32) (x3 : Int64) (x5 : Int32) (s0 : Int32) (h : smH) : sm_E PP X 114 148 [(0, .ref x0), (1, .int x1), (2, .int x2), (3, .long x3), (5, .int x5)] [.int s0] h =
    if s0 = (-nI 2) then (sm_vc h x0 7 (sm_cR (sm_C PP X 71 [.ref x0, .int (nI 0), .int (x1 ||| (nI 8))] h) fun w1 h2 => sm_E PP X 114 162 [(0, .ref x0), (1, .int x1), (2, .int x2), (3, .long x3), (5, .int x5)] (w1.toList ++ []) h2)) else sm_E PP X 114 308 [(0, .ref x0), (3, .long x3), (5, .int x5)] [] h :=
  (sm_blk PP X 114 [0, 4, 11, 19, 22, 34, 47, 60, 76, 89, 100, 110, 113, 132, 135, 145, 148, 162, 174, 189, 200, 214, 225, 235, 244, 254, 257, 268, 277, 287, 300, 308, 309, 320, 331, 340, 341] 195 148 _ _ _).trans rfl
set_option maxRecDepth 4000 in
theorem b114_162 (X : smX) (x0 : Nat) (x1 : Int32) (x2 : Int32) (x3 : Int64) (x5 : Int32) (s0 : Int32) (h : smH) : sm_E PP X 114 162 [(0, .ref x0), (1, .int x1), (2, .int x2), (3, .long x3), (5, .int x5)] [.int s0] h =
    if s0 = (-nI 1) then (sm_vc h x0 7 (sm_cR (sm_C PP X 72 [.ref x0, .int (nI 0), .int (nI 0), .int (nI 31)] h) fun w1 h2 => sm_E PP X 114 174 [(0, .ref x0), (1, .int x1), (2, .int x2), (3, .long x3), (5, .int x5)] (w1.toList ++ []) h2)) else sm_E PP X 114 308 [(0, .ref x0), (3, .long x3), (5, .int x5)] [] h :=
  (sm_blk PP X 114 [0, 4, 11, 19, 22, 34, 47, 60, 76, 89, 100, 110, 113, 132, 135, 145, 148, 162, 174, 189, 200, 214, 225, 235, 244, 254, 257, 268, 277, 287, 300, 308, 309, 320, 331, 340, 341] 195 162 _ _ _).trans rfl
set_option maxRecDepth 4000 in
theorem b114_174 (X : smX) (x0 : Nat) (x1 : Int32) (x2 : Int32) (x3 : Int64) (x5 : Int32) (s0 : Int32) (h : smH) : sm_E PP X 114 174 [(0, .ref x0), (1, .int x1), (2, .int x2), (3, .long x3), (5, .int x5)] [.int s0] h =
    if s0 = (-nI 1) then (sm_vc h x0 7 (sm_cR (sm_C PP X 73 [.ref x0, .int (nI 0), .int (x2 ||| (nI 1024)), .int (nI 0)] h) fun w1 h2 => sm_E PP X 114 189 [(0, .ref x0), (1, .int x1), (2, .int x2), (3, .long x3), (5, .int x5)] (w1.toList ++ []) h2)) else sm_E PP X 114 308 [(0, .ref x0), (3, .long x3), (5, .int x5)] [] h :=
  (sm_blk PP X 114 [0, 4, 11, 19, 22, 34, 47, 60, 76, 89, 100, 110, 113, 132, 135, 145, 148, 162, 174, 189, 200, 214, 225, 235, 244, 254, 257, 268, 277, 287, 300, 308, 309, 320, 331, 340, 341] 195 174 _ _ _).trans rfl
set_option maxRecDepth 4000 in
theorem b114_189 (X : smX) (x0 : Nat) (x1 : Int32) (x2 : Int32) (x3 : Int64) (x5 : Int32) (s0 : Int32) (h : smH) : sm_E PP X 114 189 [(0, .ref x0), (1, .int x1), (2, .int x2), (3, .long x3), (5, .int x5)] [.int s0] h =
    if s0 = (-nI 1) then (sm_vc h x0 7 (sm_cR (sm_C PP X 78 [.ref x0, .int (nI 0), .int (-nI 1), .int (nI 0)] h) fun w1 h2 => sm_E PP X 114 200 [(0, .ref x0), (1, .int x1), (2, .int x2), (3, .long x3), (5, .int x5)] (w1.toList ++ []) h2)) else sm_E PP X 114 308 [(0, .ref x0), (3, .long x3), (5, .int x5)] [] h :=
  (sm_blk PP X 114 [0, 4, 11, 19, 22, 34, 47, 60, 76, 89, 100, 110, 113, 132, 135, 145, 148, 162, 174, 189, 200, 214, 225, 235, 244, 254, 257, 268, 277, 287, 300, 308, 309, 320, 331, 340, 341] 195 189 _ _ _).trans rfl
set_option maxRecDepth 4000 in
theorem b114_200 (X : smX) (x0 : Nat) (x1 : Int32) (x2 : Int32) (x3 : Int64) (x5 : Int32) (s0 : Int32) (h : smH) : sm_E PP X 114 200 [(0, .ref x0), (1, .int x1), (2, .int x2), (3, .long x3), (5, .int x5)] [.int s0] h =
    if s0 = (-nI 1) then (sm_vc h x0 7 (sm_cR (sm_C PP X 79 [.ref x0, .int (x1 ||| (nI 1024)), .int (nI 0)] h) fun w1 h2 => sm_E PP X 114 214 [(0, .ref x0), (1, .int x1), (2, .int x2), (3, .long x3), (5, .int x5)] (w1.toList ++ []) h2)) else sm_E PP X 114 308 [(0, .ref x0), (3, .long x3), (5, .int x5)] [] h :=
  (sm_blk PP X 114 [0, 4, 11, 19, 22, 34, 47, 60, 76, 89, 100, 110, 113, 132, 135, 145, 148, 162, 174, 189, 200, 214, 225, 235, 244, 254, 257, 268, 277, 287, 300, 308, 309, 320, 331, 340, 341] 195 200 _ _ _).trans rfl
set_option maxRecDepth 4000 in
theorem b114_214 (X : smX) (x0 : Nat) (x1 : Int32) (x2 : Int32) (x3 : Int64) (x5 : Int32) (s0 : Int32) (h : smH) : sm_E PP X 114 214 [(0, .ref x0), (1, .int x1), (2, .int x2), (3, .long x3), (5, .int x5)] [.int s0] h =
    if s0 = (-nI 1) then (sm_vc h x0 7 (sm_cR (sm_C PP X 79 [.ref x0, .int (nI 0), .int (-nI 2)] h) fun w1 h2 => sm_E PP X 114 225 [(0, .ref x0), (1, .int x1), (2, .int x2), (3, .long x3), (5, .int x5)] (w1.toList ++ []) h2)) else sm_E PP X 114 308 [(0, .ref x0), (3, .long x3), (5, .int x5)] [] h :=
  (sm_blk PP X 114 [0, 4, 11, 19, 22, 34, 47, 60, 76, 89, 100, 110, 113, 132, 135, 145, 148, 162, 174, 189, 200, 214, 225, 235, 244, 254, 257, 268, 277, 287, 300, 308, 309, 320, 331, 340, 341] 195 214 _ _ _).trans rfl
set_option maxRecDepth 4000 in
theorem b114_225 (X : smX) (x0 : Nat) (x1 : Int32) (x2 : Int32) (x3 : Int64) (x5 : Int32) (s0 : Int32) (h : smH) : sm_E PP X 114 225 [(0, .ref x0), (1, .int x1), (2, .int x2), (3, .long x3), (5, .int x5)] [.int s0] h =
    if s0 = (-nI 1) then (sm_vc h x0 7 (sm_cR (sm_C PP X 91 [.ref x0, .int (nI 6)] h) fun w1 h2 => sm_E PP X 114 235 [(0, .ref x0), (1, .int x1), (2, .int x2), (3, .long x3), (5, .int x5)] (w1.toList ++ []) h2)) else sm_E PP X 114 308 [(0, .ref x0), (3, .long x3), (5, .int x5)] [] h :=
  (sm_blk PP X 114 [0, 4, 11, 19, 22, 34, 47, 60, 76, 89, 100, 110, 113, 132, 135, 145, 148, 162, 174, 189, 200, 214, 225, 235, 244, 254, 257, 268, 277, 287, 300, 308, 309, 320, 331, 340, 341] 195 225 _ _ _).trans rfl
set_option maxRecDepth 4000 in
theorem b114_235 (X : smX) (x0 : Nat) (x1 : Int32) (x2 : Int32) (x3 : Int64) (x5 : Int32) (s0 : Int32) (h : smH) : sm_E PP X 114 235 [(0, .ref x0), (1, .int x1), (2, .int x2), (3, .long x3), (5, .int x5)] [.int s0] h =
    if s0 = (-nI 1) then (sm_vc h x0 7 (sm_cR (sm_C PP X 98 [.ref x0, .int (-nI 1)] h) fun w1 h2 => sm_E PP X 114 244 [(0, .ref x0), (1, .int x1), (2, .int x2), (3, .long x3), (5, .int x5)] (w1.toList ++ []) h2)) else sm_E PP X 114 308 [(0, .ref x0), (3, .long x3), (5, .int x5)] [] h :=
  (sm_blk PP X 114 [0, 4, 11, 19, 22, 34, 47, 60, 76, 89, 100, 110, 113, 132, 135, 145, 148, 162, 174, 189, 200, 214, 225, 235, 244, 254, 257, 268, 277, 287, 300, 308, 309, 320, 331, 340, 341] 195 235 _ _ _).trans rfl
set_option maxRecDepth 4000 in
theorem b114_244 (X : smX) (x0 : Nat) (x1 : Int32) (x2 : Int32) (x3 : Int64) (x5 : Int32) (s0 : Int32) (h : smH) : sm_E PP X 114 244 [(0, .ref x0), (1, .int x1), (2, .int x2), (3, .long x3), (5, .int x5)] [.int s0] h =
    if s0 = (-nI 1) then (sm_vc h x0 7 (sm_cR (sm_C PP X 105 [.ref x0, .int (nI 0)] h) fun w1 h2 => sm_E PP X 114 254 [(0, .ref x0), (1, .int x1), (2, .int x2), (3, .long x3), (5, .int x5)] (w1.toList ++ [.ref x0]) h2)) else sm_E PP X 114 308 [(0, .ref x0), (3, .long x3), (5, .int x5)] [] h :=
  (sm_blk PP X 114 [0, 4, 11, 19, 22, 34, 47, 60, 76, 89, 100, 110, 113, 132, 135, 145, 148, 162, 174, 189, 200, 214, 225, 235, 244, 254, 257, 268, 277, 287, 300, 308, 309, 320, 331, 340, 341] 195 244 _ _ _).trans rfl
set_option maxRecDepth 4000 in
theorem b114_254 (X : smX) (x0 : Nat) (x1 : Int32) (x2 : Int32) (x3 : Int64) (x5 : Int32) (s0 : Int32) (s1 : Nat) (h : smH) : sm_E PP X 114 254 [(0, .ref x0), (1, .int x1), (2, .int x2), (3, .long x3), (5, .int x5)] [.int s0, .ref s1] h =
    sm_vc h s1 7 (sm_cR (sm_C PP X 101 [.ref s1, .int s0] h) fun w1 h2 => sm_E PP X 114 257 [(0, .ref x0), (1, .int x1), (2, .int x2), (3, .long x3), (5, .int x5)] (w1.toList ++ []) h2) :=
  (sm_blk PP X 114 [0, 4, 11, 19, 22, 34, 47, 60, 76, 89, 100, 110, 113, 132, 135, 145, 148, 162, 174, 189, 200, 214, 225, 235, 244, 254, 257, 268, 277, 287, 300, 308, 309, 320, 331, 340, 341] 195 254 _ _ _).trans rfl
set_option maxRecDepth 4000 in
theorem b114_257 (X : smX) (x0 : Nat) (x1 : Int32) (x2 : Int32) (x3 : Int64) (x5 : Int32) (s0 : Int32) (h : smH) : sm_E PP X 114 257 [(0, .ref x0), (1, .int x1), (2, .int x2), (3, .long x3), (5, .int x5)] [.int s0] h =
    if s0 = (-nI 1) then (sm_vc h x0 7 (sm_cR (sm_C PP X 102 [.ref x0, .int (x2 ||| (nI 2))] h) fun w1 h2 => sm_E PP X 114 268 [(0, .ref x0), (1, .int x1), (3, .long x3), (5, .int x5)] (w1.toList ++ []) h2)) else sm_E PP X 114 308 [(0, .ref x0), (3, .long x3), (5, .int x5)] [] h :=
  (sm_blk PP X 114 [0, 4, 11, 19, 22, 34, 47, 60, 76, 89, 100, 110, 113, 132, 135, 145, 148, 162, 174, 189, 200, 214, 225, 235, 244, 254, 257, 268, 277, 287, 300, 308, 309, 320, 331, 340, 341] 195 257 _ _ _).trans rfl
set_option maxRecDepth 4000 in
theorem b114_268 (X : smX) (x0 : Nat) (x1 : Int32) (x3 : Int64) (x5 : Int32) (s0 : Int32) (h : smH) : sm_E PP X 114 268 [(0, .ref x0), (1, .int x1), (3, .long x3), (5, .int x5)] [.int s0] h =
    if s0 = (-nI 1) then (sm_vc h x0 7 (sm_cR (sm_C PP X 103 [.ref x0, .int (nI 2)] h) fun w1 h2 => sm_E PP X 114 277 [(0, .ref x0), (1, .int x1), (3, .long x3), (5, .int x5)] (w1.toList ++ []) h2)) else sm_E PP X 114 308 [(0, .ref x0), (3, .long x3), (5, .int x5)] [] h :=
  (sm_blk PP X 114 [0, 4, 11, 19, 22, 34, 47, 60, 76, 89, 100, 110, 113, 132, 135, 145, 148, 162, 174, 189, 200, 214, 225, 235, 244, 254, 257, 268, 277, 287, 300, 308, 309, 320, 331, 340, 341] 195 268 _ _ _).trans rfl
set_option maxRecDepth 4000 in
theorem b114_277 (X : smX) (x0 : Nat) (x1 : Int32) (x3 : Int64) (x5 : Int32) (s0 : Int32) (h : smH) : sm_E PP X 114 277 [(0, .ref x0), (1, .int x1), (3, .long x3), (5, .int x5)] [.int s0] h =
    if s0 = (-nI 1) then (sm_vc h x0 7 (sm_cR (sm_C PP X 105 [.ref x0, .int (nI 7)] h) fun w1 h2 => sm_E PP X 114 287 [(0, .ref x0), (1, .int x1), (3, .long x3), (5, .int x5)] (w1.toList ++ []) h2)) else sm_E PP X 114 308 [(0, .ref x0), (3, .long x3), (5, .int x5)] [] h :=
  (sm_blk PP X 114 [0, 4, 11, 19, 22, 34, 47, 60, 76, 89, 100, 110, 113, 132, 135, 145, 148, 162, 174, 189, 200, 214, 225, 235, 244, 254, 257, 268, 277, 287, 300, 308, 309, 320, 331, 340, 341] 195 277 _ _ _).trans rfl
set_option maxRecDepth 4000 in
theorem b114_287 (X : smX) (x0 : Nat) (x1 : Int32) (x3 : Int64) (x5 : Int32) (s0 : Int32) (h : smH) : sm_E PP X 114 287 [(0, .ref x0), (1, .int x1), (3, .long x3), (5, .int x5)] [.int s0] h =
    if s0 = (-nI 1) then (sm_vc h x0 7 (sm_cR (sm_C PP X 28 [.ref x0, .int (x1 ||| (nI 256))] h) fun w1 h2 => sm_E PP X 114 300 [(0, .ref x0), (3, .long x3), (5, .int x5)] (w1.toList ++ []) h2)) else sm_E PP X 114 308 [(0, .ref x0), (3, .long x3), (5, .int x5)] [] h :=
  (sm_blk PP X 114 [0, 4, 11, 19, 22, 34, 47, 60, 76, 89, 100, 110, 113, 132, 135, 145, 148, 162, 174, 189, 200, 214, 225, 235, 244, 254, 257, 268, 277, 287, 300, 308, 309, 320, 331, 340, 341] 195 287 _ _ _).trans rfl
set_option maxRecDepth 4000 in
theorem b114_300 (X : smX) (x0 : Nat) (x3 : Int64) (x5 : Int32) (s0 : Int32) (h : smH) : sm_E PP X 114 300 [(0, .ref x0), (3, .long x3), (5, .int x5)] [.int s0] h =
    if s0 = (-nI 1) then (sm_E PP X 114 309 [(0, .ref x0), (3, .long x3), (5, .int x5)] [.int (nI 1)] h) else sm_E PP X 114 308 [(0, .ref x0), (3, .long x3), (5, .int x5)] [] h :=
  (sm_blk PP X 114 [0, 4, 11, 19, 22, 34, 47, 60, 76, 89, 100, 110, 113, 132, 135, 145, 148, 162, 174, 189, 200, 214, 225, 235, 244, 254, 257, 268, 277, 287, 300, 308, 309, 320, 331, 340, 341] 195 300 _ _ _).trans rfl
/-! 115: WornSumsLaw.wears(LWornSums;I)Z -/
theorem c115 (X : smX) (x0 : Nat) (x1 : Int32) (h : smH) : sm_C PP X 115 [.ref x0, .int x1] h = sm_E PP X 115 0 [(0, .ref x0), (1, .int x1)] [] h := rfl
set_option maxRecDepth 4000 in
theorem b115_0 (X : smX) (x0 : Nat) (x1 : Int32) (h : smH) : sm_E PP X 115 0 [(0, .ref x0), (1, .int x1)] [] h =
    sm_vc h x0 7 (sm_cR (sm_C PP X 105 [.ref x0, .int (nI 0)] h) fun w1 h2 => sm_E PP X 115 5 [(0, .ref x0), (1, .int x1)] (w1.toList ++ []) h2) :=
  (sm_blk PP X 115 [0, 5, 17, 35, 38, 44, 52, 60, 68, 79, 92, 103, 114, 128, 144, 150, 157, 167, 174, 181, 187, 189, 194, 210, 221, 232, 241, 244, 246, 250, 262, 271, 272] 155 0 _ _ _).trans rfl
set_option maxRecDepth 4000 in
theorem b115_5 (X : smX) (x0 : Nat) (x1 : Int32) (s0 : Int32) (h : smH) : sm_E PP X 115 5 [(0, .ref x0), (1, .int x1)] [.int s0] h =
    if s0 = 0 then (if narrow (sm_nk 1) (.int (nI 1)) = .int (nI 1) then some (some (.int (nI 1)), h) else none) else sm_cR (sm_C PP X 108 [.int x1, .int s0] h) fun w1 h2 => sm_E PP X 115 17 [(0, .ref x0), (1, .int x1)] (w1.toList ++ []) h2 :=
  (sm_blk PP X 115 [0, 5, 17, 35, 38, 44, 52, 60, 68, 79, 92, 103, 114, 128, 144, 150, 157, 167, 174, 181, 187, 189, 194, 210, 221, 232, 241, 244, 246, 250, 262, 271, 272] 155 5 _ _ _).trans rfl
set_option maxRecDepth 4000 in
theorem b115_17 (X : smX) (x0 : Nat) (x1 : Int32) (s0 : Int32) (h : smH) : sm_E PP X 115 17 [(0, .ref x0), (1, .int x1)] [.int s0] h =
    sm_vc h x0 7 (sm_cR (sm_C PP X 71 [.ref x0, .int s0, .int ((x1 >>> ((nI 3) &&& 31)) &&& (nI 1))] h) fun w1 h2 => sm_E PP X 115 35 [(0, .ref x0), (3, .int s0), (4, .int ((x1 >>> ((nI 3) &&& 31)) &&& (nI 1)))] (w1.toList ++ [.int (x1 >>> ((nI 4) &&& 31))]) h2) :=
  (sm_blk PP X 115 [0, 5, 17, 35, 38, 44, 52, 60, 68, 79, 92, 103, 114, 128, 144, 150, 157, 167, 174, 181, 187, 189, 194, 210, 221, 232, 241, 244, 246, 250, 262, 271, 272] 155 17 _ _ _).trans rfl
set_option maxRecDepth 4000 in
theorem b115_35 (X : smX) (x0 : Nat) (x3 : Int32) (x4 : Int32) (s0 : Int32) (s1 : Int32) (h : smH) : sm_E PP X 115 35 [(0, .ref x0), (3, .int x3), (4, .int x4)] [.int s0, .int s1] h =
    sm_cR (sm_C PP X 108 [.int s1, .int s0] h) fun w1 h2 => sm_E PP X 115 38 [(0, .ref x0), (3, .int x3), (4, .int x4)] (w1.toList ++ []) h2 :=
  (sm_blk PP X 115 [0, 5, 17, 35, 38, 44, 52, 60, 68, 79, 92, 103, 114, 128, 144, 150, 157, 167, 174, 181, 187, 189, 194, 210, 221, 232, 241, 244, 246, 250, 262, 271, 272] 155 35 _ _ _).trans rfl
set_option maxRecDepth 4000 in
theorem b115_38 (X : smX) (x0 : Nat) (x3 : Int32) (x4 : Int32) (s0 : Int32) (h : smH) : sm_E PP X 115 38 [(0, .ref x0), (3, .int x3), (4, .int x4)] [.int s0] h =
    sm_cR (sm_C PP X 109 [.ref x0] h) fun w1 h2 => sm_E PP X 115 44 [(0, .ref x0), (3, .int x3), (4, .int x4), (5, .int s0)] (w1.toList ++ []) h2 :=
  (sm_blk PP X 115 [0, 5, 17, 35, 38, 44, 52, 60, 68, 79, 92, 103, 114, 128, 144, 150, 157, 167, 174, 181, 187, 189, 194, 210, 221, 232, 241, 244, 246, 250, 262, 271, 272] 155 38 _ _ _).trans rfl
set_option maxRecDepth 4000 in
theorem b115_44 (X : smX) (x0 : Nat) (x3 : Int32) (x4 : Int32) (x5 : Int32) (s0 : Int64) (h : smH) : sm_E PP X 115 44 [(0, .ref x0), (3, .int x3), (4, .int x4), (5, .int x5)] [.long s0] h =
    sm_vc h x0 7 (sm_cR (sm_C PP X 71 [.ref x0, .int x3, .int (nI 3)] h) fun w1 h2 => sm_E PP X 115 52 [(0, .ref x0), (3, .int x3), (4, .int x4), (5, .int x5), (6, .long s0)] (w1.toList ++ []) h2) :=
  (sm_blk PP X 115 [0, 5, 17, 35, 38, 44, 52, 60, 68, 79, 92, 103, 114, 128, 144, 150, 157, 167, 174, 181, 187, 189, 194, 210, 221, 232, 241, 244, 246, 250, 262, 271, 272] 155 44 _ _ _).trans rfl
set_option maxRecDepth 4000 in
theorem b115_52 (X : smX) (x0 : Nat) (x3 : Int32) (x4 : Int32) (x5 : Int32) (x6 : Int64) (s0 : Int32) (h : smH) : sm_E PP X 115 52 [(0, .ref x0), (3, .int x3), (4, .int x4), (5, .int x5), (6, .long x6)] [.int s0] h =
    sm_vc h x0 7 (sm_cR (sm_C PP X 71 [.ref x0, .int x3, .int (nI 4)] h) fun w1 h2 => sm_E PP X 115 60 [(0, .ref x0), (3, .int x3), (4, .int x4), (5, .int x5), (6, .long x6), (8, .int s0)] (w1.toList ++ []) h2) :=
  (sm_blk PP X 115 [0, 5, 17, 35, 38, 44, 52, 60, 68, 79, 92, 103, 114, 128, 144, 150, 157, 167, 174, 181, 187, 189, 194, 210, 221, 232, 241, 244, 246, 250, 262, 271, 272] 155 52 _ _ _).trans rfl
set_option maxRecDepth 4000 in
theorem b115_60 (X : smX) (x0 : Nat) (x3 : Int32) (x4 : Int32) (x5 : Int32) (x6 : Int64) (x8 : Int32) (s0 : Int32) (h : smH) : sm_E PP X 115 60 [(0, .ref x0), (3, .int x3), (4, .int x4), (5, .int x5), (6, .long x6), (8, .int x8)] [.int s0] h =
    sm_vc h x0 7 (sm_cR (sm_C PP X 71 [.ref x0, .int x3, .int (nI 5)] h) fun w1 h2 => sm_E PP X 115 68 [(0, .ref x0), (3, .int x3), (4, .int x4), (5, .int x5), (6, .long x6), (8, .int x8), (9, .int s0)] (w1.toList ++ []) h2) :=
  (sm_blk PP X 115 [0, 5, 17, 35, 38, 44, 52, 60, 68, 79, 92, 103, 114, 128, 144, 150, 157, 167, 174, 181, 187, 189, 194, 210, 221, 232, 241, 244, 246, 250, 262, 271, 272] 155 60 _ _ _).trans rfl
set_option maxRecDepth 4000 in
theorem b115_68 (X : smX) (x0 : Nat) (x3 : Int32) (x4 : Int32) (x5 : Int32) (x6 : Int64) (x8 : Int32) (x9 : Int32) (s0 : Int32) (h : smH) : sm_E PP X 115 68 [(0, .ref x0), (3, .int x3), (4, .int x4), (5, .int x5), (6, .long x6), (8, .int x8), (9, .int x9)] [.int s0] h =
    sm_vc h x0 7 (sm_cR (sm_C PP X 52 [.ref x0, .int x3, .int x4, .int x5] h) fun w1 h2 => sm_E PP X 115 79 [(0, .ref x0), (3, .int x3), (4, .int x4), (5, .int x5), (6, .long x6), (8, .int x8), (9, .int x9), (10, .int s0)] (w1.toList ++ []) h2) :=
  (sm_blk PP X 115 [0, 5, 17, 35, 38, 44, 52, 60, 68, 79, 92, 103, 114, 128, 144, 150, 157, 167, 174, 181, 187, 189, 194, 210, 221, 232, 241, 244, 246, 250, 262, 271, 272] 155 68 _ _ _).trans rfl
set_option maxRecDepth 4000 in
theorem b115_79 (X : smX) (x0 : Nat) (x3 : Int32) (x4 : Int32) (x5 : Int32) (x6 : Int64) (x8 : Int32) (x9 : Int32) (x10 : Int32) (s0 : Int32) (h : smH) : sm_E PP X 115 79 [(0, .ref x0), (3, .int x3), (4, .int x4), (5, .int x5), (6, .long x6), (8, .int x8), (9, .int x9), (10, .int x10)] [.int s0] h =
    if s0 ≤ 0 then (sm_E PP X 115 189 [(0, .ref x0), (3, .int x3), (6, .long x6), (8, .int x8), (10, .int x10)] [] h) else sm_vc h x0 7 (sm_cR (sm_C PP X 71 [.ref x0, .int x3, .int (nI 3)] h) fun w1 h2 => sm_E PP X 115 92 [(0, .ref x0), (3, .int x3), (4, .int x4), (5, .int x5), (6, .long x6), (8, .int x8), (9, .int x9), (10, .int x10), (11, .int s0)] (w1.toList ++ []) h2) :=
  (sm_blk PP X 115 [0, 5, 17, 35, 38, 44, 52, 60, 68, 79, 92, 103, 114, 128, 144, 150, 157, 167, 174, 181, 187, 189, 194, 210, 221, 232, 241, 244, 246, 250, 262, 271, 272] 155 79 _ _ _).trans rfl
set_option maxRecDepth 4000 in
theorem b115_189 (X : smX) (x0 : Nat) (x3 : Int32) (x6 : Int64) (x8 : Int32) (x10 : Int32) (h : smH) : sm_E PP X 115 189 [(0, .ref x0), (3, .int x3), (6, .long x6), (8, .int x8), (10, .int x10)] [] h =
    sm_vc h x0 7 (sm_cR (sm_C PP X 105 [.ref x0, .int (nI 2)] h) fun w1 h2 => sm_E PP X 115 194 [(0, .ref x0), (3, .int x3), (6, .long x6), (8, .int x8), (10, .int x10)] (w1.toList ++ []) h2) :=
  (sm_blk PP X 115 [0, 5, 17, 35, 38, 44, 52, 60, 68, 79, 92, 103, 114, 128, 144, 150, 157, 167, 174, 181, 187, 189, 194, 210, 221, 232, 241, 244, 246, 250, 262, 271, 272] 155 189 _ _ _).trans rfl
set_option maxRecDepth 4000 in
theorem b115_92 (X : smX) (x0 : Nat) (x3 : Int32) (x4 : Int32) (x5 : Int32) (x6 : Int64) (x8 : Int32) (x9 : Int32) (x10 : Int32) (x11 : Int32) (s0 : Int32) (h : smH) : sm_E PP X 115 92 [(0, .ref x0), (3, .int x3), (4, .int x4), (5, .int x5), (6, .long x6), (8, .int x8), (9, .int x9), (10, .int x10), (11, .int x11)] [.int s0] h =
    if s0 < x8 then (sm_E PP X 115 187 [] [] h) else sm_vc h x0 7 (sm_cR (sm_C PP X 71 [.ref x0, .int x3, .int (nI 4)] h) fun w1 h2 => sm_E PP X 115 103 [(0, .ref x0), (3, .int x3), (4, .int x4), (5, .int x5), (6, .long x6), (8, .int x8), (9, .int x9), (10, .int x10), (11, .int x11)] (w1.toList ++ []) h2) :=
  (sm_blk PP X 115 [0, 5, 17, 35, 38, 44, 52, 60, 68, 79, 92, 103, 114, 128, 144, 150, 157, 167, 174, 181, 187, 189, 194, 210, 221, 232, 241, 244, 246, 250, 262, 271, 272] 155 92 _ _ _).trans rfl
set_option maxRecDepth 4000 in
theorem b115_194 (X : smX) (x0 : Nat) (x3 : Int32) (x6 : Int64) (x8 : Int32) (x10 : Int32) (s0 : Int32) (h : smH) : sm_E PP X 115 194 [(0, .ref x0), (3, .int x3), (6, .long x6), (8, .int x8), (10, .int x10)] [.int s0] h =
    if (nI 2) ≤ s0 then (sm_E PP X 115 246 [(0, .ref x0), (3, .int x3), (6, .long x6), (10, .int x10)] [] h) else sm_vc h x0 7 (sm_cR (sm_C PP X 57 [.ref x0, .int (s0 + (nI 1))] h) fun w1 h2 => sm_E PP X 115 210 [(0, .ref x0), (3, .int x3), (6, .long x6), (8, .int x8), (10, .int x10), (12, .int s0)] (w1.toList ++ []) h2) :=
  (sm_blk PP X 115 [0, 5, 17, 35, 38, 44, 52, 60, 68, 79, 92, 103, 114, 128, 144, 150, 157, 167, 174, 181, 187, 189, 194, 210, 221, 232, 241, 244, 246, 250, 262, 271, 272] 155 194 _ _ _).trans rfl
set_option maxRecDepth 4000 in
theorem b115_187 (X : smX) (h : smH) : sm_E PP X 115 187 [] [] h =
    if narrow (sm_nk 1) (.int (nI 0)) = .int (nI 0) then some (some (.int (nI 0)), h) else none :=
  (sm_blk PP X 115 [0, 5, 17, 35, 38, 44, 52, 60, 68, 79, 92, 103, 114, 128, 144, 150, 157, 167, 174, 181, 187, 189, 194, 210, 221, 232, 241, 244, 246, 250, 262, 271, 272] 155 187 _ _ _).trans rfl
set_option maxRecDepth 4000 in
theorem b115_103 (X : smX) (x0 : Nat) (x3 : Int32) (x4 : Int32) (x5 : Int32) (x6 : Int64) (x8 : Int32) (x9 : Int32) (x10 : Int32) (x11 : Int32) (s0 : Int32) (h : smH) : sm_E PP X 115 103 [(0, .ref x0), (3, .int x3), (4, .int x4), (5, .int x5), (6, .long x6), (8, .int x8), (9, .int x9), (10, .int x10), (11, .int x11)] [.int s0] h =
    if s0 < x9 then (sm_E PP X 115 187 [] [] h) else sm_vc h x0 7 (sm_cR (sm_C PP X 71 [.ref x0, .int x3, .int (nI 5)] h) fun w1 h2 => sm_E PP X 115 114 [(0, .ref x0), (3, .int x3), (4, .int x4), (5, .int x5), (6, .long x6), (8, .int x8), (10, .int x10), (11, .int x11)] (w1.toList ++ []) h2) :=
  (sm_blk PP X 115 [0, 5, 17, 35, 38, 44, 52, 60, 68, 79, 92, 103, 114, 128, 144, 150, 157, 167, 174, 181, 187, 189, 194, 210, 221, 232, 241, 244, 246, 250, 262, 271, 272] 155 103 _ _ _).trans rfl
set_option maxRecDepth 4000 in
theorem b115_246 (X : smX) (x0 : Nat) (x3 : Int32) (x6 : Int64) (x10 : Int32) (h : smH) : sm_E PP X 115 246 [(0, .ref x0), (3, .int x3), (6, .long x6), (10, .int x10)] [] h =
    sm_cR (sm_C PP X 109 [.ref x0] h) fun w1 h2 => sm_E PP X 115 250 [(0, .ref x0), (3, .int x3), (6, .long x6), (10, .int x10)] (w1.toList ++ []) h2 :=
  (sm_blk PP X 115 [0, 5, 17, 35, 38, 44, 52, 60, 68, 79, 92, 103, 114, 128, 144, 150, 157, 167, 174, 181, 187, 189, 194, 210, 221, 232, 241, 244, 246, 250, 262, 271, 272] 155 246 _ _ _).trans rfl
set_option maxRecDepth 4000 in
theorem b115_210 (X : smX) (x0 : Nat) (x3 : Int32) (x6 : Int64) (x8 : Int32) (x10 : Int32) (x12 : Int32) (s0 : Int32) (h : smH) : sm_E PP X 115 210 [(0, .ref x0), (3, .int x3), (6, .long x6), (8, .int x8), (10, .int x10), (12, .int x12)] [.int s0] h =
    if s0 = x12 then (sm_vc h x0 7 (sm_cR (sm_C PP X 71 [.ref x0, .int x3, .int (nI 3)] h) fun w1 h2 => sm_E PP X 115 221 [(0, .ref x0), (3, .int x3), (6, .long x6), (8, .int x8), (10, .int x10)] (w1.toList ++ []) h2)) else sm_E PP X 115 244 [] [] h :=
  (sm_blk PP X 115 [0, 5, 17, 35, 38, 44, 52, 60, 68, 79, 92, 103, 114, 128, 144, 150, 157, 167, 174, 181, 187, 189, 194, 210, 221, 232, 241, 244, 246, 250, 262, 271, 272] 155 210 _ _ _).trans rfl
set_option maxRecDepth 4000 in
theorem b115_114 (X : smX) (x0 : Nat) (x3 : Int32) (x4 : Int32) (x5 : Int32) (x6 : Int64) (x8 : Int32) (x10 : Int32) (x11 : Int32) (s0 : Int32) (h : smH) : sm_E PP X 115 114 [(0, .ref x0), (3, .int x3), (4, .int x4), (5, .int x5), (6, .long x6), (8, .int x8), (10, .int x10), (11, .int x11)] [.int s0] h =
    if s0 < x10 then (sm_E PP X 115 187 [] [] h) else sm_vc h x0 7 (sm_cR (sm_C PP X 72 [.ref x0, .int x3, .int x4, .int x5] h) fun w1 h2 => sm_E PP X 115 128 [(0, .ref x0), (3, .int x3), (4, .int x4), (5, .int x5), (6, .long x6), (8, .int x8), (10, .int x10), (11, .int x11)] (w1.toList ++ []) h2) :=
  (sm_blk PP X 115 [0, 5, 17, 35, 38, 44, 52, 60, 68, 79, 92, 103, 114, 128, 144, 150, 157, 167, 174, 181, 187, 189, 194, 210, 221, 232, 241, 244, 246, 250, 262, 271, 272] 155 114 _ _ _).trans rfl
set_option maxRecDepth 4000 in
theorem b115_250 (X : smX) (x0 : Nat) (x3 : Int32) (x6 : Int64) (x10 : Int32) (s0 : Int64) (h : smH) : sm_E PP X 115 250 [(0, .ref x0), (3, .int x3), (6, .long x6), (10, .int x10)] [.long s0] h =
    if (lg_cmp s0 x6) = 0 then (sm_vc h x0 7 (sm_cR (sm_C PP X 71 [.ref x0, .int x3, .int (nI 5)] h) fun w1 h2 => sm_E PP X 115 262 [(10, .int x10)] (w1.toList ++ []) h2)) else sm_E PP X 115 271 [] [] h :=
  (sm_blk PP X 115 [0, 5, 17, 35, 38, 44, 52, 60, 68, 79, 92, 103, 114, 128, 144, 150, 157, 167, 174, 181, 187, 189, 194, 210, 221, 232, 241, 244, 246, 250, 262, 271, 272] 155 250 _ _ _).trans rfl
set_option maxRecDepth 4000 in
theorem b115_221 (X : smX) (x0 : Nat) (x3 : Int32) (x6 : Int64) (x8 : Int32) (x10 : Int32) (s0 : Int32) (h : smH) : sm_E PP X 115 221 [(0, .ref x0), (3, .int x3), (6, .long x6), (8, .int x8), (10, .int x10)] [.int s0] h =
    if s0 < x8 then (sm_E PP X 115 244 [] [] h) else sm_vc h x0 7 (sm_cR (sm_C PP X 71 [.ref x0, .int x3, .int (nI 5)] h) fun w1 h2 => sm_E PP X 115 232 [(0, .ref x0), (3, .int x3), (6, .long x6), (10, .int x10)] (w1.toList ++ []) h2) :=
  (sm_blk PP X 115 [0, 5, 17, 35, 38, 44, 52, 60, 68, 79, 92, 103, 114, 128, 144, 150, 157, 167, 174, 181, 187, 189, 194, 210, 221, 232, 241, 244, 246, 250, 262, 271, 272] 155 221 _ _ _).trans rfl
set_option maxRecDepth 4000 in
theorem b115_244 (X : smX) (h : smH) : sm_E PP X 115 244 [] [] h =
    if narrow (sm_nk 1) (.int (nI 0)) = .int (nI 0) then some (some (.int (nI 0)), h) else none :=
  (sm_blk PP X 115 [0, 5, 17, 35, 38, 44, 52, 60, 68, 79, 92, 103, 114, 128, 144, 150, 157, 167, 174, 181, 187, 189, 194, 210, 221, 232, 241, 244, 246, 250, 262, 271, 272] 155 244 _ _ _).trans rfl
set_option maxRecDepth 4000 in
theorem b115_128 (X : smX) (x0 : Nat) (x3 : Int32) (x4 : Int32) (x5 : Int32) (x6 : Int64) (x8 : Int32) (x10 : Int32) (x11 : Int32) (s0 : Int32) (h : smH) : sm_E PP X 115 128 [(0, .ref x0), (3, .int x3), (4, .int x4), (5, .int x5), (6, .long x6), (8, .int x8), (10, .int x10), (11, .int x11)] [.int s0] h =
    if s0 = (nI 63) then (sm_vc h x0 7 (sm_cR (sm_C PP X 56 [.ref x0, .int x3, .int x4, .int x5, .int x11] h) fun w1 h2 => sm_E PP X 115 144 [(0, .ref x0), (3, .int x3), (6, .long x6), (8, .int x8), (10, .int x10)] (w1.toList ++ []) h2)) else sm_E PP X 115 187 [] [] h :=
  (sm_blk PP X 115 [0, 5, 17, 35, 38, 44, 52, 60, 68, 79, 92, 103, 114, 128, 144, 150, 157, 167, 174, 181, 187, 189, 194, 210, 221, 232, 241, 244, 246, 250, 262, 271, 272] 155 128 _ _ _).trans rfl
set_option maxRecDepth 4000 in
theorem b115_262 (X : smX) (x10 : Int32) (s0 : Int32) (h : smH) : sm_E PP X 115 262 [(10, .int x10)] [.int s0] h =
    if s0 = x10 then (sm_E PP X 115 272 [] [.int (nI 1)] h) else sm_E PP X 115 271 [] [] h :=
  (sm_blk PP X 115 [0, 5, 17, 35, 38, 44, 52, 60, 68, 79, 92, 103, 114, 128, 144, 150, 157, 167, 174, 181, 187, 189, 194, 210, 221, 232, 241, 244, 246, 250, 262, 271, 272] 155 262 _ _ _).trans rfl
set_option maxRecDepth 4000 in
theorem b115_271 (X : smX) (h : smH) : sm_E PP X 115 271 [] [] h =
    sm_E PP X 115 272 [] [.int (nI 0)] h :=
  (sm_blk PP X 115 [0, 5, 17, 35, 38, 44, 52, 60, 68, 79, 92, 103, 114, 128, 144, 150, 157, 167, 174, 181, 187, 189, 194, 210, 221, 232, 241, 244, 246, 250, 262, 271, 272] 155 271 _ _ _).trans rfl
set_option maxRecDepth 4000 in
theorem b115_232 (X : smX) (x0 : Nat) (x3 : Int32) (x6 : Int64) (x10 : Int32) (s0 : Int32) (h : smH) : sm_E PP X 115 232 [(0, .ref x0), (3, .int x3), (6, .long x6), (10, .int x10)] [.int s0] h =
    if s0 < x10 then (sm_E PP X 115 244 [] [] h) else sm_vc h x0 7 (sm_cR (sm_C PP X 60 [.ref x0] h) fun w1 h2 => sm_E PP X 115 241 [(0, .ref x0), (3, .int x3), (6, .long x6), (10, .int x10)] (w1.toList ++ []) h2) :=
  (sm_blk PP X 115 [0, 5, 17, 35, 38, 44, 52, 60, 68, 79, 92, 103, 114, 128, 144, 150, 157, 167, 174, 181, 187, 189, 194, 210, 221, 232, 241, 244, 246, 250, 262, 271, 272] 155 232 _ _ _).trans rfl
set_option maxRecDepth 4000 in
theorem b115_144 (X : smX) (x0 : Nat) (x3 : Int32) (x6 : Int64) (x8 : Int32) (x10 : Int32) (s0 : Int32) (h : smH) : sm_E PP X 115 144 [(0, .ref x0), (3, .int x3), (6, .long x6), (8, .int x8), (10, .int x10)] [.int s0] h =
    sm_vc h x0 7 (sm_cR (sm_C PP X 71 [.ref x0, .int x3, .int (nI 2)] h) fun w1 h2 => sm_E PP X 115 150 [(0, .ref x0), (3, .int x3), (6, .long x6), (8, .int x8), (10, .int x10)] (w1.toList ++ [.int s0]) h2) :=
  (sm_blk PP X 115 [0, 5, 17, 35, 38, 44, 52, 60, 68, 79, 92, 103, 114, 128, 144, 150, 157, 167, 174, 181, 187, 189, 194, 210, 221, 232, 241, 244, 246, 250, 262, 271, 272] 155 144 _ _ _).trans rfl
set_option maxRecDepth 4000 in
theorem b115_272 (X : smX) (s0 : Int32) (h : smH) : sm_E PP X 115 272 [] [.int s0] h =
    if narrow (sm_nk 1) (.int s0) = .int s0 then some (some (.int s0), h) else none :=
  (sm_blk PP X 115 [0, 5, 17, 35, 38, 44, 52, 60, 68, 79, 92, 103, 114, 128, 144, 150, 157, 167, 174, 181, 187, 189, 194, 210, 221, 232, 241, 244, 246, 250, 262, 271, 272] 155 272 _ _ _).trans rfl
set_option maxRecDepth 4000 in
theorem b115_241 (X : smX) (x0 : Nat) (x3 : Int32) (x6 : Int64) (x10 : Int32) (s0 : Int32) (h : smH) : sm_E PP X 115 241 [(0, .ref x0), (3, .int x3), (6, .long x6), (10, .int x10)] [.int s0] h =
    if 0 ≤ s0 then (sm_E PP X 115 246 [(0, .ref x0), (3, .int x3), (6, .long x6), (10, .int x10)] [] h) else sm_E PP X 115 244 [] [] h :=
  (sm_blk PP X 115 [0, 5, 17, 35, 38, 44, 52, 60, 68, 79, 92, 103, 114, 128, 144, 150, 157, 167, 174, 181, 187, 189, 194, 210, 221, 232, 241, 244, 246, 250, 262, 271, 272] 155 241 _ _ _).trans rfl
set_option maxRecDepth 4000 in
theorem b115_150 (X : smX) (x0 : Nat) (x3 : Int32) (x6 : Int64) (x8 : Int32) (x10 : Int32) (s0 : Int32) (s1 : Int32) (h : smH) : sm_E PP X 115 150 [(0, .ref x0), (3, .int x3), (6, .long x6), (8, .int x8), (10, .int x10)] [.int s0, .int s1] h =
    if s1 = s0 then (sm_cR (sm_C PP X 109 [.ref x0] h) fun w1 h2 => sm_E PP X 115 157 [(0, .ref x0), (3, .int x3), (6, .long x6), (8, .int x8), (10, .int x10)] (w1.toList ++ []) h2) else sm_E PP X 115 187 [] [] h :=
  (sm_blk PP X 115 [0, 5, 17, 35, 38, 44, 52, 60, 68, 79, 92, 103, 114, 128, 144, 150, 157, 167, 174, 181, 187, 189, 194, 210, 221, 232, 241, 244, 246, 250, 262, 271, 272] 155 150 _ _ _).trans rfl
set_option maxRecDepth 4000 in
theorem b115_157 (X : smX) (x0 : Nat) (x3 : Int32) (x6 : Int64) (x8 : Int32) (x10 : Int32) (s0 : Int64) (h : smH) : sm_E PP X 115 157 [(0, .ref x0), (3, .int x3), (6, .long x6), (8, .int x8), (10, .int x10)] [.long s0] h =
    if (lg_cmp s0 x6) = 0 then (sm_vc h x0 7 (sm_cR (sm_C PP X 60 [.ref x0] h) fun w1 h2 => sm_E PP X 115 167 [(0, .ref x0), (3, .int x3), (6, .long x6), (8, .int x8), (10, .int x10)] (w1.toList ++ []) h2)) else sm_E PP X 115 187 [] [] h :=
  (sm_blk PP X 115 [0, 5, 17, 35, 38, 44, 52, 60, 68, 79, 92, 103, 114, 128, 144, 150, 157, 167, 174, 181, 187, 189, 194, 210, 221, 232, 241, 244, 246, 250, 262, 271, 272] 155 157 _ _ _).trans rfl
set_option maxRecDepth 4000 in
theorem b115_167 (X : smX) (x0 : Nat) (x3 : Int32) (x6 : Int64) (x8 : Int32) (x10 : Int32) (s0 : Int32) (h : smH) : sm_E PP X 115 167 [(0, .ref x0), (3, .int x3), (6, .long x6), (8, .int x8), (10, .int x10)] [.int s0] h =
    if s0 < 0 then (sm_E PP X 115 187 [] [] h) else sm_vc h x0 7 (sm_cR (sm_C PP X 60 [.ref x0] h) fun w1 h2 => sm_E PP X 115 174 [(0, .ref x0), (3, .int x3), (6, .long x6), (8, .int x8), (10, .int x10)] (w1.toList ++ []) h2) :=
  (sm_blk PP X 115 [0, 5, 17, 35, 38, 44, 52, 60, 68, 79, 92, 103, 114, 128, 144, 150, 157, 167, 174, 181, 187, 189, 194, 210, 221, 232, 241, 244, 246, 250, 262, 271, 272] 155 167 _ _ _).trans rfl
set_option maxRecDepth 4000 in
theorem b115_174 (X : smX) (x0 : Nat) (x3 : Int32) (x6 : Int64) (x8 : Int32) (x10 : Int32) (s0 : Int32) (h : smH) : sm_E PP X 115 174 [(0, .ref x0), (3, .int x3), (6, .long x6), (8, .int x8), (10, .int x10)] [.int s0] h =
    if s0 < 0 then (sm_E PP X 115 187 [] [] h) else sm_cR (sm_C PP X 109 [.ref x0] h) fun w1 h2 => sm_E PP X 115 181 [(0, .ref x0), (3, .int x3), (6, .long x6), (8, .int x8), (10, .int x10)] (w1.toList ++ []) h2 :=
  (sm_blk PP X 115 [0, 5, 17, 35, 38, 44, 52, 60, 68, 79, 92, 103, 114, 128, 144, 150, 157, 167, 174, 181, 187, 189, 194, 210, 221, 232, 241, 244, 246, 250, 262, 271, 272] 155 174 _ _ _).trans rfl
set_option maxRecDepth 4000 in
theorem b115_181 (X : smX) (x0 : Nat) (x3 : Int32) (x6 : Int64) (x8 : Int32) (x10 : Int32) (s0 : Int64) (h : smH) : sm_E PP X 115 181 [(0, .ref x0), (3, .int x3), (6, .long x6), (8, .int x8), (10, .int x10)] [.long s0] h =
    if (lg_cmp s0 x6) = 0 then (sm_E PP X 115 189 [(0, .ref x0), (3, .int x3), (6, .long x6), (8, .int x8), (10, .int x10)] [] h) else sm_E PP X 115 187 [] [] h :=
  (sm_blk PP X 115 [0, 5, 17, 35, 38, 44, 52, 60, 68, 79, 92, 103, 114, 128, 144, 150, 157, 167, 174, 181, 187, 189, 194, 210, 221, 232, 241, 244, 246, 250, 262, 271, 272] 155 181 _ _ _).trans rfl
/-! 116: WornSumsLaw.law([I)Z -/
theorem c116 (X : smX) (x0 : Nat) (h : smH) : sm_C PP X 116 [.retAddr x0] h = sm_E PP X 116 0 [(0, .retAddr x0)] [] h := rfl
set_option maxRecDepth 4000 in
theorem b116_0 (X : smX) (x0 : Nat) (h : smH) : sm_E PP X 116 0 [(0, .retAddr x0)] [] h =
    sm_cR (sm_C PP X 26 [.ref h.2.1] (sm_n h (.inr (7, PP.2.2.1 7)) (PP.2.2.1 7).length)) fun w1 h2 => sm_E PP X 116 7 [(0, .retAddr x0)] (w1.toList ++ [.ref h.2.1]) h2 :=
  (sm_blk PP X 116 [0, 7, 19, 26, 29, 34, 49, 61, 67, 74, 93, 98, 112, 121, 122, 139, 157, 168, 178, 191, 200, 206, 212, 214, 225, 236, 243, 257, 261, 273, 287, 316, 328, 344, 352, 358, 376, 383, 394, 397, 403, 410, 415, 423, 428, 435, 445, 456, 459, 461, 465, 477, 487, 497, 504, 511, 512] 275 0 _ _ _).trans rfl
set_option maxRecDepth 4000 in
theorem b116_7 (X : smX) (x0 : Nat) (s0 : Nat) (h : smH) : sm_E PP X 116 7 [(0, .retAddr x0)] [.ref s0] h =
    if (nI 8) < 0 ∨ 1000000 < (nI 8).toNatClampNeg then none else sm_cR (sm_C PP X 111 [.ref s0] (sm_n h (.inl (.long, (nI 8).toNatClampNeg, .inr (.inl (fun _ => 0)))) (nI 8).toNatClampNeg)) fun w1 h2 => sm_E PP X 116 19 [(0, .retAddr x0), (1, .ref s0), (2, .ref h.2.1), (3, .int (nI 0))] (w1.toList ++ []) h2 :=
  (sm_blk PP X 116 [0, 7, 19, 26, 29, 34, 49, 61, 67, 74, 93, 98, 112, 121, 122, 139, 157, 168, 178, 191, 200, 206, 212, 214, 225, 236, 243, 257, 261, 273, 287, 316, 328, 344, 352, 358, 376, 383, 394, 397, 403, 410, 415, 423, 428, 435, 445, 456, 459, 461, 465, 477, 487, 497, 504, 511, 512] 275 7 _ _ _).trans rfl
set_option maxRecDepth 4000 in
theorem b116_19 (X : smX) (x0 : Nat) (x1 : Nat) (x2 : Nat) (x3 : Int32) (s0 : Int32) (h : smH) : sm_E PP X 116 19 [(0, .retAddr x0), (1, .ref x1), (2, .ref x2), (3, .int x3)] [.int s0] h =
    if s0 = 0 then (sm_E PP X 116 29 [] [] h) else sm_cR (sm_C PP X 110 [.ref x1] h) fun w1 h2 => sm_E PP X 116 26 [(0, .retAddr x0), (1, .ref x1), (2, .ref x2), (3, .int x3)] (w1.toList ++ []) h2 :=
  (sm_blk PP X 116 [0, 7, 19, 26, 29, 34, 49, 61, 67, 74, 93, 98, 112, 121, 122, 139, 157, 168, 178, 191, 200, 206, 212, 214, 225, 236, 243, 257, 261, 273, 287, 316, 328, 344, 352, 358, 376, 383, 394, 397, 403, 410, 415, 423, 428, 435, 445, 456, 459, 461, 465, 477, 487, 497, 504, 511, 512] 275 19 _ _ _).trans rfl
set_option maxRecDepth 4000 in
theorem b116_29 (X : smX) (h : smH) : sm_E PP X 116 29 [] [] h =
    if narrow (sm_nk 1) (.int (nI 0)) = .int (nI 0) then some (some (.int (nI 0)), h) else none :=
  (sm_blk PP X 116 [0, 7, 19, 26, 29, 34, 49, 61, 67, 74, 93, 98, 112, 121, 122, 139, 157, 168, 178, 191, 200, 206, 212, 214, 225, 236, 243, 257, 261, 273, 287, 316, 328, 344, 352, 358, 376, 383, 394, 397, 403, 410, 415, 423, 428, 435, 445, 456, 459, 461, 465, 477, 487, 497, 504, 511, 512] 275 29 _ _ _).trans rfl
set_option maxRecDepth 4000 in
theorem b116_26 (X : smX) (x0 : Nat) (x1 : Nat) (x2 : Nat) (x3 : Int32) (s0 : Int32) (h : smH) : sm_E PP X 116 26 [(0, .retAddr x0), (1, .ref x1), (2, .ref x2), (3, .int x3)] [.int s0] h =
    if s0 = 0 then (sm_E PP X 116 29 [] [] h) else sm_E PP X 116 34 [(0, .retAddr x0), (1, .ref x1), (2, .ref x2), (3, .int x3), (4, .int (nI 0))] [] h :=
  (sm_blk PP X 116 [0, 7, 19, 26, 29, 34, 49, 61, 67, 74, 93, 98, 112, 121, 122, 139, 157, 168, 178, 191, 200, 206, 212, 214, 225, 236, 243, 257, 261, 273, 287, 316, 328, 344, 352, 358, 376, 383, 394, 397, 403, 410, 415, 423, 428, 435, 445, 456, 459, 461, 465, 477, 487, 497, 504, 511, 512] 275 26 _ _ _).trans rfl
set_option maxRecDepth 4000 in
theorem b116_34 (X : smX) (x0 : Nat) (x1 : Nat) (x2 : Nat) (x3 : Int32) (x4 : Int32) (h : smH) : sm_E PP X 116 34 [(0, .retAddr x0), (1, .ref x1), (2, .ref x2), (3, .int x3), (4, .int x4)] [] h =
    if (nI 28) ≤ x4 then (sm_cR (sm_C PP X 110 [.ref x1] h) fun w1 h2 => sm_E PP X 116 497 [(1, .ref x1)] (w1.toList ++ []) h2) else sm_cR (sm_C PP X 107 [.retAddr x0, .int ((nI 2) * x4)] h) fun w3 h4 => sm_E PP X 116 49 [(0, .retAddr x0), (1, .ref x1), (2, .ref x2), (3, .int x3), (4, .int x4)] (w3.toList ++ []) h4 :=
  (sm_blk PP X 116 [0, 7, 19, 26, 29, 34, 49, 61, 67, 74, 93, 98, 112, 121, 122, 139, 157, 168, 178, 191, 200, 206, 212, 214, 225, 236, 243, 257, 261, 273, 287, 316, 328, 344, 352, 358, 376, 383, 394, 397, 403, 410, 415, 423, 428, 435, 445, 456, 459, 461, 465, 477, 487, 497, 504, 511, 512] 275 34 _ _ _).trans rfl
set_option maxRecDepth 4000 in
theorem b116_497 (X : smX) (x1 : Nat) (s0 : Int32) (h : smH) : sm_E PP X 116 497 [(1, .ref x1)] [.int s0] h =
    if s0 = 0 then (sm_E PP X 116 511 [] [] h) else sm_cR (sm_C PP X 111 [.ref x1] h) fun w1 h2 => sm_E PP X 116 504 [] (w1.toList ++ []) h2 :=
  (sm_blk PP X 116 [0, 7, 19, 26, 29, 34, 49, 61, 67, 74, 93, 98, 112, 121, 122, 139, 157, 168, 178, 191, 200, 206, 212, 214, 225, 236, 243, 257, 261, 273, 287, 316, 328, 344, 352, 358, 376, 383, 394, 397, 403, 410, 415, 423, 428, 435, 445, 456, 459, 461, 465, 477, 487, 497, 504, 511, 512] 275 497 _ _ _).trans rfl
set_option maxRecDepth 4000 in
theorem b116_49 (X : smX) (x0 : Nat) (x1 : Nat) (x2 : Nat) (x3 : Int32) (x4 : Int32) (s0 : Int32) (h : smH) : sm_E PP X 116 49 [(0, .retAddr x0), (1, .ref x1), (2, .ref x2), (3, .int x3), (4, .int x4)] [.int s0] h =
    sm_cR (sm_C PP X 107 [.retAddr x0, .int (((nI 2) * x4) + (nI 1))] h) fun w1 h2 => sm_E PP X 116 61 [(0, .retAddr x0), (1, .ref x1), (2, .ref x2), (3, .int x3), (4, .int x4), (5, .int s0)] (w1.toList ++ []) h2 :=
  (sm_blk PP X 116 [0, 7, 19, 26, 29, 34, 49, 61, 67, 74, 93, 98, 112, 121, 122, 139, 157, 168, 178, 191, 200, 206, 212, 214, 225, 236, 243, 257, 261, 273, 287, 316, 328, 344, 352, 358, 376, 383, 394, 397, 403, 410, 415, 423, 428, 435, 445, 456, 459, 461, 465, 477, 487, 497, 504, 511, 512] 275 49 _ _ _).trans rfl
set_option maxRecDepth 4000 in
theorem b116_511 (X : smX) (h : smH) : sm_E PP X 116 511 [] [] h =
    sm_E PP X 116 512 [] [.int (nI 0)] h :=
  (sm_blk PP X 116 [0, 7, 19, 26, 29, 34, 49, 61, 67, 74, 93, 98, 112, 121, 122, 139, 157, 168, 178, 191, 200, 206, 212, 214, 225, 236, 243, 257, 261, 273, 287, 316, 328, 344, 352, 358, 376, 383, 394, 397, 403, 410, 415, 423, 428, 435, 445, 456, 459, 461, 465, 477, 487, 497, 504, 511, 512] 275 511 _ _ _).trans rfl
set_option maxRecDepth 4000 in
theorem b116_504 (X : smX) (s0 : Int32) (h : smH) : sm_E PP X 116 504 [] [.int s0] h =
    if s0 = 0 then (sm_E PP X 116 511 [] [] h) else sm_E PP X 116 512 [] [.int (nI 1)] h :=
  (sm_blk PP X 116 [0, 7, 19, 26, 29, 34, 49, 61, 67, 74, 93, 98, 112, 121, 122, 139, 157, 168, 178, 191, 200, 206, 212, 214, 225, 236, 243, 257, 261, 273, 287, 316, 328, 344, 352, 358, 376, 383, 394, 397, 403, 410, 415, 423, 428, 435, 445, 456, 459, 461, 465, 477, 487, 497, 504, 511, 512] 275 504 _ _ _).trans rfl
set_option maxRecDepth 4000 in
theorem b116_61 (X : smX) (x0 : Nat) (x1 : Nat) (x2 : Nat) (x3 : Int32) (x4 : Int32) (x5 : Int32) (s0 : Int32) (h : smH) : sm_E PP X 116 61 [(0, .retAddr x0), (1, .ref x1), (2, .ref x2), (3, .int x3), (4, .int x4), (5, .int x5)] [.int s0] h =
    sm_cR (sm_C PP X 109 [.ref x1] h) fun w1 h2 => sm_E PP X 116 67 [(0, .retAddr x0), (1, .ref x1), (2, .ref x2), (3, .int x3), (4, .int x4), (5, .int x5), (6, .int s0)] (w1.toList ++ []) h2 :=
  (sm_blk PP X 116 [0, 7, 19, 26, 29, 34, 49, 61, 67, 74, 93, 98, 112, 121, 122, 139, 157, 168, 178, 191, 200, 206, 212, 214, 225, 236, 243, 257, 261, 273, 287, 316, 328, 344, 352, 358, 376, 383, 394, 397, 403, 410, 415, 423, 428, 435, 445, 456, 459, 461, 465, 477, 487, 497, 504, 511, 512] 275 61 _ _ _).trans rfl
set_option maxRecDepth 4000 in
theorem b116_512 (X : smX) (s0 : Int32) (h : smH) : sm_E PP X 116 512 [] [.int s0] h =
    if narrow (sm_nk 1) (.int s0) = .int s0 then some (some (.int s0), h) else none :=
  (sm_blk PP X 116 [0, 7, 19, 26, 29, 34, 49, 61, 67, 74, 93, 98, 112, 121, 122, 139, 157, 168, 178, 191, 200, 206, 212, 214, 225, 236, 243, 257, 261, 273, 287, 316, 328, 344, 352, 358, 376, 383, 394, 397, 403, 410, 415, 423, 428, 435, 445, 456, 459, 461, 465, 477, 487, 497, 504, 511, 512] 275 512 _ _ _).trans rfl
set_option maxRecDepth 4000 in
theorem b116_67 (X : smX) (x0 : Nat) (x1 : Nat) (x2 : Nat) (x3 : Int32) (x4 : Int32) (x5 : Int32) (x6 : Int32) (s0 : Int64) (h : smH) : sm_E PP X 116 67 [(0, .retAddr x0), (1, .ref x1), (2, .ref x2), (3, .int x3), (4, .int x4), (5, .int x5), (6, .int x6)] [.long s0] h =
    sm_vc h x1 7 (sm_cR (sm_C PP X 105 [.ref x1, .int (nI 0)] h) fun w1 h2 => sm_E PP X 116 74 [(0, .retAddr x0), (1, .ref x1), (2, .ref x2), (3, .int x3), (4, .int x4), (5, .int x5), (6, .int x6), (7, .long s0)] (w1.toList ++ []) h2) :=
  (sm_blk PP X 116 [0, 7, 19, 26, 29, 34, 49, 61, 67, 74, 93, 98, 112, 121, 122, 139, 157, 168, 178, 191, 200, 206, 212, 214, 225, 236, 243, 257, 261, 273, 287, 316, 328, 344, 352, 358, 376, 383, 394, 397, 403, 410, 415, 423, 428, 435, 445, 456, 459, 461, 465, 477, 487, 497, 504, 511, 512] 275 67 _ _ _).trans rfl
set_option maxRecDepth 4000 in
theorem b116_74 (X : smX) (x0 : Nat) (x1 : Nat) (x2 : Nat) (x3 : Int32) (x4 : Int32) (x5 : Int32) (x6 : Int32) (x7 : Int64) (s0 : Int32) (h : smH) : sm_E PP X 116 74 [(0, .retAddr x0), (1, .ref x1), (2, .ref x2), (3, .int x3), (4, .int x4), (5, .int x5), (6, .int x6), (7, .long x7)] [.int s0] h =
    if x4 < (nI 3) then (sm_E PP X 116 93 [(0, .retAddr x0), (1, .ref x1), (2, .ref x2), (3, .int x3), (4, .int x4), (5, .int x5), (6, .int x6), (7, .long x7), (9, .int s0)] [] h) else if ((x5 >>> ((nI 20) &&& 31)) &&& (nI 7)) = 0 then (sm_E PP X 116 93 [(0, .retAddr x0), (1, .ref x1), (2, .ref x2), (3, .int x3), (4, .int x4), (5, .int x5), (6, .int x6), (7, .long x7), (9, .int s0)] [] h) else sm_E PP X 116 98 [(0, .retAddr x0), (1, .ref x1), (2, .ref x2), (3, .int x3), (4, .int x4), (5, .int x5), (6, .int x6), (7, .long x7), (9, .int s0)] [.int (nI 0)] h :=
  (sm_blk PP X 116 [0, 7, 19, 26, 29, 34, 49, 61, 67, 74, 93, 98, 112, 121, 122, 139, 157, 168, 178, 191, 200, 206, 212, 214, 225, 236, 243, 257, 261, 273, 287, 316, 328, 344, 352, 358, 376, 383, 394, 397, 403, 410, 415, 423, 428, 435, 445, 456, 459, 461, 465, 477, 487, 497, 504, 511, 512] 275 74 _ _ _).trans rfl
set_option maxRecDepth 4000 in
theorem b116_93 (X : smX) (x0 : Nat) (x1 : Nat) (x2 : Nat) (x3 : Int32) (x4 : Int32) (x5 : Int32) (x6 : Int32) (x7 : Int64) (x9 : Int32) (h : smH) : sm_E PP X 116 93 [(0, .retAddr x0), (1, .ref x1), (2, .ref x2), (3, .int x3), (4, .int x4), (5, .int x5), (6, .int x6), (7, .long x7), (9, .int x9)] [] h =
    sm_E PP X 116 98 [(0, .retAddr x0), (1, .ref x1), (2, .ref x2), (3, .int x3), (4, .int x4), (5, .int x5), (6, .int x6), (7, .long x7), (9, .int x9)] [.int (nI 1)] h :=
  (sm_blk PP X 116 [0, 7, 19, 26, 29, 34, 49, 61, 67, 74, 93, 98, 112, 121, 122, 139, 157, 168, 178, 191, 200, 206, 212, 214, 225, 236, 243, 257, 261, 273, 287, 316, 328, 344, 352, 358, 376, 383, 394, 397, 403, 410, 415, 423, 428, 435, 445, 456, 459, 461, 465, 477, 487, 497, 504, 511, 512] 275 93 _ _ _).trans rfl
set_option maxRecDepth 4000 in
theorem b116_98 (X : smX) (x0 : Nat) (x1 : Nat) (x2 : Nat) (x3 : Int32) (x4 : Int32) (x5 : Int32) (x6 : Int32) (x7 : Int64) (x9 : Int32) (s0 : Int32) (h : smH) : sm_E PP X 116 98 [(0, .retAddr x0), (1, .ref x1), (2, .ref x2), (3, .int x3), (4, .int x4), (5, .int x5), (6, .int x6), (7, .long x7), (9, .int x9)] [.int s0] h =
    if s0 = 0 then (sm_cR (sm_C PP X 108 [.int x5, .int (nI 16)] h) fun w1 h2 => sm_E PP X 116 112 [(0, .retAddr x0), (1, .ref x1), (2, .ref x2), (3, .int x3), (4, .int x4), (5, .int x5), (6, .int x6), (7, .long x7), (9, .int x9), (10, .int s0)] (w1.toList ++ []) h2) else sm_E PP X 116 121 [(0, .retAddr x0), (1, .ref x1), (2, .ref x2), (3, .int x3), (4, .int x4), (5, .int x5), (6, .int x6), (7, .long x7), (9, .int x9), (10, .int s0)] [] h :=
  (sm_blk PP X 116 [0, 7, 19, 26, 29, 34, 49, 61, 67, 74, 93, 98, 112, 121, 122, 139, 157, 168, 178, 191, 200, 206, 212, 214, 225, 236, 243, 257, 261, 273, 287, 316, 328, 344, 352, 358, 376, 383, 394, 397, 403, 410, 415, 423, 428, 435, 445, 456, 459, 461, 465, 477, 487, 497, 504, 511, 512] 275 98 _ _ _).trans rfl
set_option maxRecDepth 4000 in
theorem b116_112 (X : smX) (x0 : Nat) (x1 : Nat) (x2 : Nat) (x3 : Int32) (x4 : Int32) (x5 : Int32) (x6 : Int32) (x7 : Int64) (x9 : Int32) (x10 : Int32) (s0 : Int32) (h : smH) : sm_E PP X 116 112 [(0, .retAddr x0), (1, .ref x1), (2, .ref x2), (3, .int x3), (4, .int x4), (5, .int x5), (6, .int x6), (7, .long x7), (9, .int x9), (10, .int x10)] [.int s0] h =
    if s0 ≤ (nI 13) then (sm_E PP X 116 121 [(0, .retAddr x0), (1, .ref x1), (2, .ref x2), (3, .int x3), (4, .int x4), (5, .int x5), (6, .int x6), (7, .long x7), (9, .int x9), (10, .int x10)] [] h) else sm_E PP X 116 122 [(0, .retAddr x0), (1, .ref x1), (2, .ref x2), (3, .int x3), (4, .int x4), (5, .int x5), (6, .int x6), (7, .long x7), (9, .int x9), (10, .int x10)] [.int (nI 1)] h :=
  (sm_blk PP X 116 [0, 7, 19, 26, 29, 34, 49, 61, 67, 74, 93, 98, 112, 121, 122, 139, 157, 168, 178, 191, 200, 206, 212, 214, 225, 236, 243, 257, 261, 273, 287, 316, 328, 344, 352, 358, 376, 383, 394, 397, 403, 410, 415, 423, 428, 435, 445, 456, 459, 461, 465, 477, 487, 497, 504, 511, 512] 275 112 _ _ _).trans rfl
set_option maxRecDepth 4000 in
theorem b116_121 (X : smX) (x0 : Nat) (x1 : Nat) (x2 : Nat) (x3 : Int32) (x4 : Int32) (x5 : Int32) (x6 : Int32) (x7 : Int64) (x9 : Int32) (x10 : Int32) (h : smH) : sm_E PP X 116 121 [(0, .retAddr x0), (1, .ref x1), (2, .ref x2), (3, .int x3), (4, .int x4), (5, .int x5), (6, .int x6), (7, .long x7), (9, .int x9), (10, .int x10)] [] h =
    sm_E PP X 116 122 [(0, .retAddr x0), (1, .ref x1), (2, .ref x2), (3, .int x3), (4, .int x4), (5, .int x5), (6, .int x6), (7, .long x7), (9, .int x9), (10, .int x10)] [.int (nI 0)] h :=
  (sm_blk PP X 116 [0, 7, 19, 26, 29, 34, 49, 61, 67, 74, 93, 98, 112, 121, 122, 139, 157, 168, 178, 191, 200, 206, 212, 214, 225, 236, 243, 257, 261, 273, 287, 316, 328, 344, 352, 358, 376, 383, 394, 397, 403, 410, 415, 423, 428, 435, 445, 456, 459, 461, 465, 477, 487, 497, 504, 511, 512] 275 121 _ _ _).trans rfl
set_option maxRecDepth 4000 in
theorem b116_122 (X : smX) (x0 : Nat) (x1 : Nat) (x2 : Nat) (x3 : Int32) (x4 : Int32) (x5 : Int32) (x6 : Int32) (x7 : Int64) (x9 : Int32) (x10 : Int32) (s0 : Int32) (h : smH) : sm_E PP X 116 122 [(0, .retAddr x0), (1, .ref x1), (2, .ref x2), (3, .int x3), (4, .int x4), (5, .int x5), (6, .int x6), (7, .long x7), (9, .int x9), (10, .int x10)] [.int s0] h =
    if x10 = 0 then (sm_vc h x1 7 (sm_cR (sm_C PP X 105 [.ref x1, .int (nI 6)] h) fun w1 h2 => sm_E PP X 116 168 [(0, .retAddr x0), (1, .ref x1), (2, .ref x2), (3, .int x3), (4, .int x4), (5, .int x5), (6, .int x6), (7, .long x7), (11, .int s0)] (w1.toList ++ []) h2)) else sm_cR (sm_C PP X 112 [.ref x1, .int (x5 >>> ((nI 2) &&& 31)), .int x6] h) fun w3 h4 => sm_E PP X 116 139 [(0, .retAddr x0), (1, .ref x1), (2, .ref x2), (3, .int x3), (4, .int x4), (5, .int x5), (6, .int x6), (7, .long x7), (9, .int x9), (11, .int s0)] (w3.toList ++ []) h4 :=
  (sm_blk PP X 116 [0, 7, 19, 26, 29, 34, 49, 61, 67, 74, 93, 98, 112, 121, 122, 139, 157, 168, 178, 191, 200, 206, 212, 214, 225, 236, 243, 257, 261, 273, 287, 316, 328, 344, 352, 358, 376, 383, 394, 397, 403, 410, 415, 423, 428, 435, 445, 456, 459, 461, 465, 477, 487, 497, 504, 511, 512] 275 122 _ _ _).trans rfl
set_option maxRecDepth 4000 in
theorem b116_168 (X : smX) (x0 : Nat) (x1 : Nat) (x2 : Nat) (x3 : Int32) (x4 : Int32) (x5 : Int32) (x6 : Int32) (x7 : Int64) (x11 : Int32) (s0 : Int32) (h : smH) : sm_E PP X 116 168 [(0, .retAddr x0), (1, .ref x1), (2, .ref x2), (3, .int x3), (4, .int x4), (5, .int x5), (6, .int x6), (7, .long x7), (11, .int x11)] [.int s0] h =
    sm_cR (sm_C PP X 113 [.ref x1, .int x5, .int x6] h) fun w1 h2 => sm_E PP X 116 178 [(0, .retAddr x0), (1, .ref x1), (2, .ref x2), (3, .int x3), (4, .int x4), (5, .int x5), (6, .int x6), (7, .long x7), (11, .int x11), (13, .int s0)] (w1.toList ++ []) h2 :=
  (sm_blk PP X 116 [0, 7, 19, 26, 29, 34, 49, 61, 67, 74, 93, 98, 112, 121, 122, 139, 157, 168, 178, 191, 200, 206, 212, 214, 225, 236, 243, 257, 261, 273, 287, 316, 328, 344, 352, 358, 376, 383, 394, 397, 403, 410, 415, 423, 428, 435, 445, 456, 459, 461, 465, 477, 487, 497, 504, 511, 512] 275 168 _ _ _).trans rfl
set_option maxRecDepth 4000 in
theorem b116_139 (X : smX) (x0 : Nat) (x1 : Nat) (x2 : Nat) (x3 : Int32) (x4 : Int32) (x5 : Int32) (x6 : Int32) (x7 : Int64) (x9 : Int32) (x11 : Int32) (s0 : Int32) (h : smH) : sm_E PP X 116 139 [(0, .retAddr x0), (1, .ref x1), (2, .ref x2), (3, .int x3), (4, .int x4), (5, .int x5), (6, .int x6), (7, .long x7), (9, .int x9), (11, .int x11)] [.int s0] h =
    if s0 = 0 then (if narrow (sm_nk 1) (.int (nI 0)) = .int (nI 0) then some (some (.int (nI 0)), h) else none) else if x9 = (nI 6) then (sm_E PP X 116 157 [(0, .retAddr x0), (1, .ref x1), (2, .ref x2), (3, .int x3), (4, .int x4), (5, .int x5), (6, .int x6), (7, .long x7), (11, .int x11)] [.int (-nI 2)] h) else sm_E PP X 116 157 [(0, .retAddr x0), (1, .ref x1), (2, .ref x2), (3, .int x3), (4, .int x4), (5, .int x5), (6, .int x6), (7, .long x7), (11, .int x11)] [.int (nI 1)] h :=
  (sm_blk PP X 116 [0, 7, 19, 26, 29, 34, 49, 61, 67, 74, 93, 98, 112, 121, 122, 139, 157, 168, 178, 191, 200, 206, 212, 214, 225, 236, 243, 257, 261, 273, 287, 316, 328, 344, 352, 358, 376, 383, 394, 397, 403, 410, 415, 423, 428, 435, 445, 456, 459, 461, 465, 477, 487, 497, 504, 511, 512] 275 139 _ _ _).trans rfl
set_option maxRecDepth 4000 in
theorem b116_178 (X : smX) (x0 : Nat) (x1 : Nat) (x2 : Nat) (x3 : Int32) (x4 : Int32) (x5 : Int32) (x6 : Int32) (x7 : Int64) (x11 : Int32) (x13 : Int32) (s0 : Int32) (h : smH) : sm_E PP X 116 178 [(0, .retAddr x0), (1, .ref x1), (2, .ref x2), (3, .int x3), (4, .int x4), (5, .int x5), (6, .int x6), (7, .long x7), (11, .int x11), (13, .int x13)] [.int s0] h =
    if x11 = 0 then (sm_vc h x1 7 (sm_cR (sm_C PP X 105 [.ref x1, .int (nI 6)] h) fun w1 h2 => sm_E PP X 116 191 [(0, .retAddr x0), (1, .ref x1), (2, .ref x2), (3, .int x3), (4, .int x4), (5, .int x5), (6, .int x6), (7, .long x7), (11, .int x11), (13, .int x13)] (w1.toList ++ []) h2)) else sm_E PP X 116 206 [(0, .retAddr x0), (1, .ref x1), (2, .ref x2), (3, .int x3), (4, .int x4), (5, .int x5), (6, .int x6), (7, .long x7), (11, .int x11)] [] h :=
  (sm_blk PP X 116 [0, 7, 19, 26, 29, 34, 49, 61, 67, 74, 93, 98, 112, 121, 122, 139, 157, 168, 178, 191, 200, 206, 212, 214, 225, 236, 243, 257, 261, 273, 287, 316, 328, 344, 352, 358, 376, 383, 394, 397, 403, 410, 415, 423, 428, 435, 445, 456, 459, 461, 465, 477, 487, 497, 504, 511, 512] 275 178 _ _ _).trans rfl
set_option maxRecDepth 4000 in
theorem b116_157 (X : smX) (x0 : Nat) (x1 : Nat) (x2 : Nat) (x3 : Int32) (x4 : Int32) (x5 : Int32) (x6 : Int32) (x7 : Int64) (x11 : Int32) (s0 : Int32) (h : smH) : sm_E PP X 116 157 [(0, .retAddr x0), (1, .ref x1), (2, .ref x2), (3, .int x3), (4, .int x4), (5, .int x5), (6, .int x6), (7, .long x7), (11, .int x11)] [.int s0] h =
    sm_E PP X 116 214 [(0, .retAddr x0), (1, .ref x1), (2, .ref x2), (3, .int x3), (4, .int x4), (5, .int x5), (6, .int x6), (7, .long x7), (11, .int x11), (12, .int s0)] [] h :=
  (sm_blk PP X 116 [0, 7, 19, 26, 29, 34, 49, 61, 67, 74, 93, 98, 112, 121, 122, 139, 157, 168, 178, 191, 200, 206, 212, 214, 225, 236, 243, 257, 261, 273, 287, 316, 328, 344, 352, 358, 376, 383, 394, 397, 403, 410, 415, 423, 428, 435, 445, 456, 459, 461, 465, 477, 487, 497, 504, 511, 512] 275 157 _ _ _).trans rfl
set_option maxRecDepth 4000 in
theorem b116_191 (X : smX) (x0 : Nat) (x1 : Nat) (x2 : Nat) (x3 : Int32) (x4 : Int32) (x5 : Int32) (x6 : Int32) (x7 : Int64) (x11 : Int32) (x13 : Int32) (s0 : Int32) (h : smH) : sm_E PP X 116 191 [(0, .retAddr x0), (1, .ref x1), (2, .ref x2), (3, .int x3), (4, .int x4), (5, .int x5), (6, .int x6), (7, .long x7), (11, .int x11), (13, .int x13)] [.int s0] h =
    if x13 < s0 then (sm_E PP X 116 206 [(0, .retAddr x0), (1, .ref x1), (2, .ref x2), (3, .int x3), (4, .int x4), (5, .int x5), (6, .int x6), (7, .long x7), (11, .int x11)] [] h) else sm_cR (sm_C PP X 109 [.ref x1] h) fun w1 h2 => sm_E PP X 116 200 [(0, .retAddr x0), (1, .ref x1), (2, .ref x2), (3, .int x3), (4, .int x4), (5, .int x5), (6, .int x6), (7, .long x7), (11, .int x11)] (w1.toList ++ []) h2 :=
  (sm_blk PP X 116 [0, 7, 19, 26, 29, 34, 49, 61, 67, 74, 93, 98, 112, 121, 122, 139, 157, 168, 178, 191, 200, 206, 212, 214, 225, 236, 243, 257, 261, 273, 287, 316, 328, 344, 352, 358, 376, 383, 394, 397, 403, 410, 415, 423, 428, 435, 445, 456, 459, 461, 465, 477, 487, 497, 504, 511, 512] 275 191 _ _ _).trans rfl
set_option maxRecDepth 4000 in
theorem b116_206 (X : smX) (x0 : Nat) (x1 : Nat) (x2 : Nat) (x3 : Int32) (x4 : Int32) (x5 : Int32) (x6 : Int32) (x7 : Int64) (x11 : Int32) (h : smH) : sm_E PP X 116 206 [(0, .retAddr x0), (1, .ref x1), (2, .ref x2), (3, .int x3), (4, .int x4), (5, .int x5), (6, .int x6), (7, .long x7), (11, .int x11)] [] h =
    sm_E PP X 116 212 [(0, .retAddr x0), (1, .ref x1), (2, .ref x2), (3, .int x3), (4, .int x4), (5, .int x5), (6, .int x6), (7, .long x7), (11, .int x11)] [.int (nI 1)] h :=
  (sm_blk PP X 116 [0, 7, 19, 26, 29, 34, 49, 61, 67, 74, 93, 98, 112, 121, 122, 139, 157, 168, 178, 191, 200, 206, 212, 214, 225, 236, 243, 257, 261, 273, 287, 316, 328, 344, 352, 358, 376, 383, 394, 397, 403, 410, 415, 423, 428, 435, 445, 456, 459, 461, 465, 477, 487, 497, 504, 511, 512] 275 206 _ _ _).trans rfl
set_option maxRecDepth 4000 in
theorem b116_214 (X : smX) (x0 : Nat) (x1 : Nat) (x2 : Nat) (x3 : Int32) (x4 : Int32) (x5 : Int32) (x6 : Int32) (x7 : Int64) (x11 : Int32) (x12 : Int32) (h : smH) : sm_E PP X 116 214 [(0, .retAddr x0), (1, .ref x1), (2, .ref x2), (3, .int x3), (4, .int x4), (5, .int x5), (6, .int x6), (7, .long x7), (11, .int x11), (12, .int x12)] [] h =
    if x11 = 0 then (if x12 = (nI 1) then (sm_E PP X 116 287 [(0, .retAddr x0), (1, .ref x1), (2, .ref x2), (3, .int x3), (4, .int x4), (5, .int x5), (6, .int x6), (7, .long x7), (13, .int (nI 1))] [] h) else sm_cR (sm_C PP X 109 [.ref x1] h) fun w1 h2 => sm_E PP X 116 344 [(0, .retAddr x0), (1, .ref x1), (2, .ref x2), (3, .int x3), (4, .int x4), (5, .int x5), (6, .int x6), (7, .long x7)] (w1.toList ++ []) h2) else sm_vc h x1 7 (sm_cR (sm_C PP X 105 [.ref x1, .int (nI 6)] h) fun w3 h4 => sm_E PP X 116 225 [(0, .retAddr x0), (1, .ref x1), (2, .ref x2), (3, .int x3), (4, .int x4), (5, .int x5), (6, .int x6), (7, .long x7)] (w3.toList ++ []) h4) :=
  (sm_blk PP X 116 [0, 7, 19, 26, 29, 34, 49, 61, 67, 74, 93, 98, 112, 121, 122, 139, 157, 168, 178, 191, 200, 206, 212, 214, 225, 236, 243, 257, 261, 273, 287, 316, 328, 344, 352, 358, 376, 383, 394, 397, 403, 410, 415, 423, 428, 435, 445, 456, 459, 461, 465, 477, 487, 497, 504, 511, 512] 275 214 _ _ _).trans rfl
set_option maxRecDepth 4000 in
theorem b116_200 (X : smX) (x0 : Nat) (x1 : Nat) (x2 : Nat) (x3 : Int32) (x4 : Int32) (x5 : Int32) (x6 : Int32) (x7 : Int64) (x11 : Int32) (s0 : Int64) (h : smH) : sm_E PP X 116 200 [(0, .retAddr x0), (1, .ref x1), (2, .ref x2), (3, .int x3), (4, .int x4), (5, .int x5), (6, .int x6), (7, .long x7), (11, .int x11)] [.long s0] h =
    if (lg_cmp s0 x7) = 0 then (sm_E PP X 116 212 [(0, .retAddr x0), (1, .ref x1), (2, .ref x2), (3, .int x3), (4, .int x4), (5, .int x5), (6, .int x6), (7, .long x7), (11, .int x11)] [.int (-nI 2)] h) else sm_E PP X 116 206 [(0, .retAddr x0), (1, .ref x1), (2, .ref x2), (3, .int x3), (4, .int x4), (5, .int x5), (6, .int x6), (7, .long x7), (11, .int x11)] [] h :=
  (sm_blk PP X 116 [0, 7, 19, 26, 29, 34, 49, 61, 67, 74, 93, 98, 112, 121, 122, 139, 157, 168, 178, 191, 200, 206, 212, 214, 225, 236, 243, 257, 261, 273, 287, 316, 328, 344, 352, 358, 376, 383, 394, 397, 403, 410, 415, 423, 428, 435, 445, 456, 459, 461, 465, 477, 487, 497, 504, 511, 512] 275 200 _ _ _).trans rfl
set_option maxRecDepth 4000 in
theorem b116_212 (X : smX) (x0 : Nat) (x1 : Nat) (x2 : Nat) (x3 : Int32) (x4 : Int32) (x5 : Int32) (x6 : Int32) (x7 : Int64) (x11 : Int32) (s0 : Int32) (h : smH) : sm_E PP X 116 212 [(0, .retAddr x0), (1, .ref x1), (2, .ref x2), (3, .int x3), (4, .int x4), (5, .int x5), (6, .int x6), (7, .long x7), (11, .int x11)] [.int s0] h =
    sm_E PP X 116 214 [(0, .retAddr x0), (1, .ref x1), (2, .ref x2), (3, .int x3), (4, .int x4), (5, .int x5), (6, .int x6), (7, .long x7), (11, .int x11), (12, .int s0)] [] h :=
  (sm_blk PP X 116 [0, 7, 19, 26, 29, 34, 49, 61, 67, 74, 93, 98, 112, 121, 122, 139, 157, 168, 178, 191, 200, 206, 212, 214, 225, 236, 243, 257, 261, 273, 287, 316, 328, 344, 352, 358, 376, 383, 394, 397, 403, 410, 415, 423, 428, 435, 445, 456, 459, 461, 465, 477, 487, 497, 504, 511, 512] 275 212 _ _ _).trans rfl
set_option maxRecDepth 4000 in
theorem b116_287 (X : smX) (x0 : Nat) (x1 : Nat) (x2 : Nat) (x3 : Int32) (x4 : Int32) (x5 : Int32) (x6 : Int32) (x7 : Int64) (x13 : Int32) (h : smH) : sm_E PP X 116 287 [(0, .retAddr x0), (1, .ref x1), (2, .ref x2), (3, .int x3), (4, .int x4), (5, .int x5), (6, .int x6), (7, .long x7), (13, .int x13)] [] h =
    if (nI 8) ≤ x13 then (sm_E PP X 116 316 [(0, .retAddr x0), (1, .ref x1), (2, .ref x2), (3, .int x3), (4, .int x4), (5, .int x5), (6, .int x6), (7, .long x7)] [] h) else if x3 = (nI 8) then (sm_ldJ (sm_ar PP X h (.ref x2)) x13 fun v1 => sm_stJ h x2 (x13 - (nI 1)) v1 fun h2 => sm_E PP X 116 287 [(0, .retAddr x0), (1, .ref x1), (2, .ref x2), (3, .int x3), (4, .int x4), (5, .int x5), (6, .int x6), (7, .long x7), (13, .int (x13 + (nI 1)))] [] h2) else sm_E PP X 116 316 [(0, .retAddr x0), (1, .ref x1), (2, .ref x2), (3, .int x3), (4, .int x4), (5, .int x5), (6, .int x6), (7, .long x7)] [] h :=
  (sm_blk PP X 116 [0, 7, 19, 26, 29, 34, 49, 61, 67, 74, 93, 98, 112, 121, 122, 139, 157, 168, 178, 191, 200, 206, 212, 214, 225, 236, 243, 257, 261, 273, 287, 316, 328, 344, 352, 358, 376, 383, 394, 397, 403, 410, 415, 423, 428, 435, 445, 456, 459, 461, 465, 477, 487, 497, 504, 511, 512] 275 287 _ _ _).trans rfl
set_option maxRecDepth 4000 in
theorem b116_344 (X : smX) (x0 : Nat) (x1 : Nat) (x2 : Nat) (x3 : Int32) (x4 : Int32) (x5 : Int32) (x6 : Int32) (x7 : Int64) (s0 : Int64) (h : smH) : sm_E PP X 116 344 [(0, .retAddr x0), (1, .ref x1), (2, .ref x2), (3, .int x3), (4, .int x4), (5, .int x5), (6, .int x6), (7, .long x7)] [.long s0] h =
    if (lg_cmp s0 x7) = 0 then (sm_E PP X 116 352 [(0, .retAddr x0), (1, .ref x1), (2, .ref x2), (3, .int x3), (4, .int x4), (5, .int x5), (6, .int x6)] [] h) else if narrow (sm_nk 1) (.int (nI 0)) = .int (nI 0) then some (some (.int (nI 0)), h) else none :=
  (sm_blk PP X 116 [0, 7, 19, 26, 29, 34, 49, 61, 67, 74, 93, 98, 112, 121, 122, 139, 157, 168, 178, 191, 200, 206, 212, 214, 225, 236, 243, 257, 261, 273, 287, 316, 328, 344, 352, 358, 376, 383, 394, 397, 403, 410, 415, 423, 428, 435, 445, 456, 459, 461, 465, 477, 487, 497, 504, 511, 512] 275 344 _ _ _).trans rfl
set_option maxRecDepth 4000 in
theorem b116_225 (X : smX) (x0 : Nat) (x1 : Nat) (x2 : Nat) (x3 : Int32) (x4 : Int32) (x5 : Int32) (x6 : Int32) (x7 : Int64) (s0 : Int32) (h : smH) : sm_E PP X 116 225 [(0, .retAddr x0), (1, .ref x1), (2, .ref x2), (3, .int x3), (4, .int x4), (5, .int x5), (6, .int x6), (7, .long x7)] [.int s0] h =
    if x3 = 0 then (sm_E PP X 116 236 [(0, .retAddr x0), (1, .ref x1), (2, .ref x2), (3, .int x3), (4, .int x4), (5, .int x5), (6, .int x6), (7, .long x7)] [.int (nI 0), .int s0] h) else sm_E PP X 116 236 [(0, .retAddr x0), (1, .ref x1), (2, .ref x2), (3, .int x3), (4, .int x4), (5, .int x5), (6, .int x6), (7, .long x7)] [.int (x3 - (nI 1)), .int s0] h :=
  (sm_blk PP X 116 [0, 7, 19, 26, 29, 34, 49, 61, 67, 74, 93, 98, 112, 121, 122, 139, 157, 168, 178, 191, 200, 206, 212, 214, 225, 236, 243, 257, 261, 273, 287, 316, 328, 344, 352, 358, 376, 383, 394, 397, 403, 410, 415, 423, 428, 435, 445, 456, 459, 461, 465, 477, 487, 497, 504, 511, 512] 275 225 _ _ _).trans rfl
set_option maxRecDepth 4000 in
theorem b116_316 (X : smX) (x0 : Nat) (x1 : Nat) (x2 : Nat) (x3 : Int32) (x4 : Int32) (x5 : Int32) (x6 : Int32) (x7 : Int64) (h : smH) : sm_E PP X 116 316 [(0, .retAddr x0), (1, .ref x1), (2, .ref x2), (3, .int x3), (4, .int x4), (5, .int x5), (6, .int x6), (7, .long x7)] [] h =
    if x3 = (nI 8) then (sm_E PP X 116 328 [(0, .retAddr x0), (1, .ref x1), (2, .ref x2), (4, .int x4), (5, .int x5), (6, .int x6), (7, .long x7)] [.int (nI 7)] h) else sm_E PP X 116 328 [(0, .retAddr x0), (1, .ref x1), (2, .ref x2), (4, .int x4), (5, .int x5), (6, .int x6), (7, .long x7)] [.int x3] h :=
  (sm_blk PP X 116 [0, 7, 19, 26, 29, 34, 49, 61, 67, 74, 93, 98, 112, 121, 122, 139, 157, 168, 178, 191, 200, 206, 212, 214, 225, 236, 243, 257, 261, 273, 287, 316, 328, 344, 352, 358, 376, 383, 394, 397, 403, 410, 415, 423, 428, 435, 445, 456, 459, 461, 465, 477, 487, 497, 504, 511, 512] 275 316 _ _ _).trans rfl
set_option maxRecDepth 4000 in
theorem b116_352 (X : smX) (x0 : Nat) (x1 : Nat) (x2 : Nat) (x3 : Int32) (x4 : Int32) (x5 : Int32) (x6 : Int32) (h : smH) : sm_E PP X 116 352 [(0, .retAddr x0), (1, .ref x1), (2, .ref x2), (3, .int x3), (4, .int x4), (5, .int x5), (6, .int x6)] [] h =
    sm_vc h x1 7 (sm_cR (sm_C PP X 105 [.ref x1, .int (nI 6)] h) fun w1 h2 => sm_E PP X 116 358 [(0, .retAddr x0), (1, .ref x1), (2, .ref x2), (3, .int x3), (4, .int x4), (5, .int x5), (6, .int x6)] (w1.toList ++ []) h2) :=
  (sm_blk PP X 116 [0, 7, 19, 26, 29, 34, 49, 61, 67, 74, 93, 98, 112, 121, 122, 139, 157, 168, 178, 191, 200, 206, 212, 214, 225, 236, 243, 257, 261, 273, 287, 316, 328, 344, 352, 358, 376, 383, 394, 397, 403, 410, 415, 423, 428, 435, 445, 456, 459, 461, 465, 477, 487, 497, 504, 511, 512] 275 352 _ _ _).trans rfl
set_option maxRecDepth 4000 in
theorem b116_236 (X : smX) (x0 : Nat) (x1 : Nat) (x2 : Nat) (x3 : Int32) (x4 : Int32) (x5 : Int32) (x6 : Int32) (x7 : Int64) (s0 : Int32) (s1 : Int32) (h : smH) : sm_E PP X 116 236 [(0, .retAddr x0), (1, .ref x1), (2, .ref x2), (3, .int x3), (4, .int x4), (5, .int x5), (6, .int x6), (7, .long x7)] [.int s0, .int s1] h =
    if s1 = s0 then (sm_cR (sm_C PP X 109 [.ref x1] h) fun w1 h2 => sm_E PP X 116 243 [(0, .retAddr x0), (1, .ref x1), (2, .ref x2), (3, .int x3), (4, .int x4), (5, .int x5), (6, .int x6), (7, .long x7)] (w1.toList ++ []) h2) else sm_E PP X 116 261 [] [] h :=
  (sm_blk PP X 116 [0, 7, 19, 26, 29, 34, 49, 61, 67, 74, 93, 98, 112, 121, 122, 139, 157, 168, 178, 191, 200, 206, 212, 214, 225, 236, 243, 257, 261, 273, 287, 316, 328, 344, 352, 358, 376, 383, 394, 397, 403, 410, 415, 423, 428, 435, 445, 456, 459, 461, 465, 477, 487, 497, 504, 511, 512] 275 236 _ _ _).trans rfl
set_option maxRecDepth 4000 in
theorem b116_328 (X : smX) (x0 : Nat) (x1 : Nat) (x2 : Nat) (x4 : Int32) (x5 : Int32) (x6 : Int32) (x7 : Int64) (s0 : Int32) (h : smH) : sm_E PP X 116 328 [(0, .retAddr x0), (1, .ref x1), (2, .ref x2), (4, .int x4), (5, .int x5), (6, .int x6), (7, .long x7)] [.int s0] h =
    sm_stJ h x2 s0 x7 fun h1 => sm_E PP X 116 352 [(0, .retAddr x0), (1, .ref x1), (2, .ref x2), (3, .int (s0 + (nI 1))), (4, .int x4), (5, .int x5), (6, .int x6)] [] h1 :=
  (sm_blk PP X 116 [0, 7, 19, 26, 29, 34, 49, 61, 67, 74, 93, 98, 112, 121, 122, 139, 157, 168, 178, 191, 200, 206, 212, 214, 225, 236, 243, 257, 261, 273, 287, 316, 328, 344, 352, 358, 376, 383, 394, 397, 403, 410, 415, 423, 428, 435, 445, 456, 459, 461, 465, 477, 487, 497, 504, 511, 512] 275 328 _ _ _).trans rfl
set_option maxRecDepth 4000 in
theorem b116_358 (X : smX) (x0 : Nat) (x1 : Nat) (x2 : Nat) (x3 : Int32) (x4 : Int32) (x5 : Int32) (x6 : Int32) (s0 : Int32) (h : smH) : sm_E PP X 116 358 [(0, .retAddr x0), (1, .ref x1), (2, .ref x2), (3, .int x3), (4, .int x4), (5, .int x5), (6, .int x6)] [.int s0] h =
    if s0 = x3 then (if (nI 4) = 0 then none else if (x4 - x4 / (nI 4) * (nI 4)) = (nI 3) then (sm_cR (sm_C PP X 110 [.ref x1] h) fun w1 h2 => sm_E PP X 116 376 [(0, .retAddr x0), (1, .ref x1), (2, .ref x2), (4, .int x4), (5, .int x5), (6, .int x6)] (w1.toList ++ []) h2) else sm_E PP X 116 487 [(0, .retAddr x0), (1, .ref x1), (2, .ref x2), (3, .int x3), (4, .int x4)] [] h) else if narrow (sm_nk 1) (.int (nI 0)) = .int (nI 0) then some (some (.int (nI 0)), h) else none :=
  (sm_blk PP X 116 [0, 7, 19, 26, 29, 34, 49, 61, 67, 74, 93, 98, 112, 121, 122, 139, 157, 168, 178, 191, 200, 206, 212, 214, 225, 236, 243, 257, 261, 273, 287, 316, 328, 344, 352, 358, 376, 383, 394, 397, 403, 410, 415, 423, 428, 435, 445, 456, 459, 461, 465, 477, 487, 497, 504, 511, 512] 275 358 _ _ _).trans rfl
set_option maxRecDepth 4000 in
theorem b116_243 (X : smX) (x0 : Nat) (x1 : Nat) (x2 : Nat) (x3 : Int32) (x4 : Int32) (x5 : Int32) (x6 : Int32) (x7 : Int64) (s0 : Int64) (h : smH) : sm_E PP X 116 243 [(0, .retAddr x0), (1, .ref x1), (2, .ref x2), (3, .int x3), (4, .int x4), (5, .int x5), (6, .int x6), (7, .long x7)] [.long s0] h =
    if x3 = 0 then (sm_E PP X 116 257 [(0, .retAddr x0), (1, .ref x1), (2, .ref x2), (3, .int x3), (4, .int x4), (5, .int x5), (6, .int x6)] [.long x7, .long s0] h) else sm_ldJ (sm_ar PP X h (.ref x2)) (x3 - (nI 1)) fun v1 => sm_E PP X 116 257 [(0, .retAddr x0), (1, .ref x1), (2, .ref x2), (3, .int x3), (4, .int x4), (5, .int x5), (6, .int x6)] [.long v1, .long s0] h :=
  (sm_blk PP X 116 [0, 7, 19, 26, 29, 34, 49, 61, 67, 74, 93, 98, 112, 121, 122, 139, 157, 168, 178, 191, 200, 206, 212, 214, 225, 236, 243, 257, 261, 273, 287, 316, 328, 344, 352, 358, 376, 383, 394, 397, 403, 410, 415, 423, 428, 435, 445, 456, 459, 461, 465, 477, 487, 497, 504, 511, 512] 275 243 _ _ _).trans rfl
set_option maxRecDepth 4000 in
theorem b116_261 (X : smX) (h : smH) : sm_E PP X 116 261 [] [] h =
    if narrow (sm_nk 1) (.int (nI 0)) = .int (nI 0) then some (some (.int (nI 0)), h) else none :=
  (sm_blk PP X 116 [0, 7, 19, 26, 29, 34, 49, 61, 67, 74, 93, 98, 112, 121, 122, 139, 157, 168, 178, 191, 200, 206, 212, 214, 225, 236, 243, 257, 261, 273, 287, 316, 328, 344, 352, 358, 376, 383, 394, 397, 403, 410, 415, 423, 428, 435, 445, 456, 459, 461, 465, 477, 487, 497, 504, 511, 512] 275 261 _ _ _).trans rfl
set_option maxRecDepth 4000 in
theorem b116_376 (X : smX) (x0 : Nat) (x1 : Nat) (x2 : Nat) (x4 : Int32) (x5 : Int32) (x6 : Int32) (s0 : Int32) (h : smH) : sm_E PP X 116 376 [(0, .retAddr x0), (1, .ref x1), (2, .ref x2), (4, .int x4), (5, .int x5), (6, .int x6)] [.int s0] h =
    if s0 = 0 then (sm_E PP X 116 397 [] [] h) else sm_cR (sm_C PP X 111 [.ref x1] h) fun w1 h2 => sm_E PP X 116 383 [(0, .retAddr x0), (1, .ref x1), (2, .ref x2), (4, .int x4), (5, .int x5), (6, .int x6)] (w1.toList ++ []) h2 :=
  (sm_blk PP X 116 [0, 7, 19, 26, 29, 34, 49, 61, 67, 74, 93, 98, 112, 121, 122, 139, 157, 168, 178, 191, 200, 206, 212, 214, 225, 236, 243, 257, 261, 273, 287, 316, 328, 344, 352, 358, 376, 383, 394, 397, 403, 410, 415, 423, 428, 435, 445, 456, 459, 461, 465, 477, 487, 497, 504, 511, 512] 275 376 _ _ _).trans rfl
set_option maxRecDepth 4000 in
theorem b116_487 (X : smX) (x0 : Nat) (x1 : Nat) (x2 : Nat) (x3 : Int32) (x4 : Int32) (h : smH) : sm_E PP X 116 487 [(0, .retAddr x0), (1, .ref x1), (2, .ref x2), (3, .int x3), (4, .int x4)] [] h =
    sm_E PP X 116 34 [(0, .retAddr x0), (1, .ref x1), (2, .ref x2), (3, .int x3), (4, .int (x4 + (nI 1)))] [] h :=
  (sm_blk PP X 116 [0, 7, 19, 26, 29, 34, 49, 61, 67, 74, 93, 98, 112, 121, 122, 139, 157, 168, 178, 191, 200, 206, 212, 214, 225, 236, 243, 257, 261, 273, 287, 316, 328, 344, 352, 358, 376, 383, 394, 397, 403, 410, 415, 423, 428, 435, 445, 456, 459, 461, 465, 477, 487, 497, 504, 511, 512] 275 487 _ _ _).trans rfl
set_option maxRecDepth 4000 in
theorem b116_257 (X : smX) (x0 : Nat) (x1 : Nat) (x2 : Nat) (x3 : Int32) (x4 : Int32) (x5 : Int32) (x6 : Int32) (s0 : Int64) (s1 : Int64) (h : smH) : sm_E PP X 116 257 [(0, .retAddr x0), (1, .ref x1), (2, .ref x2), (3, .int x3), (4, .int x4), (5, .int x5), (6, .int x6)] [.long s0, .long s1] h =
    if (lg_cmp s1 s0) = 0 then (if x3 ≤ 0 then (sm_E PP X 116 273 [(0, .retAddr x0), (1, .ref x1), (2, .ref x2), (4, .int x4), (5, .int x5), (6, .int x6)] [.int (nI 0), .int x3] h) else sm_E PP X 116 273 [(0, .retAddr x0), (1, .ref x1), (2, .ref x2), (4, .int x4), (5, .int x5), (6, .int x6)] [.int (nI 1), .int x3] h) else sm_E PP X 116 261 [] [] h :=
  (sm_blk PP X 116 [0, 7, 19, 26, 29, 34, 49, 61, 67, 74, 93, 98, 112, 121, 122, 139, 157, 168, 178, 191, 200, 206, 212, 214, 225, 236, 243, 257, 261, 273, 287, 316, 328, 344, 352, 358, 376, 383, 394, 397, 403, 410, 415, 423, 428, 435, 445, 456, 459, 461, 465, 477, 487, 497, 504, 511, 512] 275 257 _ _ _).trans rfl
set_option maxRecDepth 4000 in
theorem b116_397 (X : smX) (h : smH) : sm_E PP X 116 397 [] [] h =
    if narrow (sm_nk 1) (.int (nI 0)) = .int (nI 0) then some (some (.int (nI 0)), h) else none :=
  (sm_blk PP X 116 [0, 7, 19, 26, 29, 34, 49, 61, 67, 74, 93, 98, 112, 121, 122, 139, 157, 168, 178, 191, 200, 206, 212, 214, 225, 236, 243, 257, 261, 273, 287, 316, 328, 344, 352, 358, 376, 383, 394, 397, 403, 410, 415, 423, 428, 435, 445, 456, 459, 461, 465, 477, 487, 497, 504, 511, 512] 275 397 _ _ _).trans rfl
set_option maxRecDepth 4000 in
theorem b116_383 (X : smX) (x0 : Nat) (x1 : Nat) (x2 : Nat) (x4 : Int32) (x5 : Int32) (x6 : Int32) (s0 : Int32) (h : smH) : sm_E PP X 116 383 [(0, .retAddr x0), (1, .ref x1), (2, .ref x2), (4, .int x4), (5, .int x5), (6, .int x6)] [.int s0] h =
    if s0 = 0 then (sm_E PP X 116 397 [] [] h) else sm_cR (sm_C PP X 114 [.ref x1, .int x5, .int x6] h) fun w1 h2 => sm_E PP X 116 394 [(0, .retAddr x0), (1, .ref x1), (2, .ref x2), (4, .int x4), (6, .int x6)] (w1.toList ++ []) h2 :=
  (sm_blk PP X 116 [0, 7, 19, 26, 29, 34, 49, 61, 67, 74, 93, 98, 112, 121, 122, 139, 157, 168, 178, 191, 200, 206, 212, 214, 225, 236, 243, 257, 261, 273, 287, 316, 328, 344, 352, 358, 376, 383, 394, 397, 403, 410, 415, 423, 428, 435, 445, 456, 459, 461, 465, 477, 487, 497, 504, 511, 512] 275 383 _ _ _).trans rfl
set_option maxRecDepth 4000 in
theorem b116_273 (X : smX) (x0 : Nat) (x1 : Nat) (x2 : Nat) (x4 : Int32) (x5 : Int32) (x6 : Int32) (s0 : Int32) (s1 : Int32) (h : smH) : sm_E PP X 116 273 [(0, .retAddr x0), (1, .ref x1), (2, .ref x2), (4, .int x4), (5, .int x5), (6, .int x6)] [.int s0, .int s1] h =
    sm_E PP X 116 352 [(0, .retAddr x0), (1, .ref x1), (2, .ref x2), (3, .int (s1 - s0)), (4, .int x4), (5, .int x5), (6, .int x6)] [] h :=
  (sm_blk PP X 116 [0, 7, 19, 26, 29, 34, 49, 61, 67, 74, 93, 98, 112, 121, 122, 139, 157, 168, 178, 191, 200, 206, 212, 214, 225, 236, 243, 257, 261, 273, 287, 316, 328, 344, 352, 358, 376, 383, 394, 397, 403, 410, 415, 423, 428, 435, 445, 456, 459, 461, 465, 477, 487, 497, 504, 511, 512] 275 273 _ _ _).trans rfl
set_option maxRecDepth 4000 in
theorem b116_394 (X : smX) (x0 : Nat) (x1 : Nat) (x2 : Nat) (x4 : Int32) (x6 : Int32) (s0 : Int32) (h : smH) : sm_E PP X 116 394 [(0, .retAddr x0), (1, .ref x1), (2, .ref x2), (4, .int x4), (6, .int x6)] [.int s0] h =
    if s0 = 0 then (sm_E PP X 116 397 [] [] h) else sm_cR (sm_C PP X 109 [.ref x1] h) fun w1 h2 => sm_E PP X 116 403 [(0, .retAddr x0), (1, .ref x1), (2, .ref x2), (4, .int x4), (6, .int x6)] (w1.toList ++ []) h2 :=
  (sm_blk PP X 116 [0, 7, 19, 26, 29, 34, 49, 61, 67, 74, 93, 98, 112, 121, 122, 139, 157, 168, 178, 191, 200, 206, 212, 214, 225, 236, 243, 257, 261, 273, 287, 316, 328, 344, 352, 358, 376, 383, 394, 397, 403, 410, 415, 423, 428, 435, 445, 456, 459, 461, 465, 477, 487, 497, 504, 511, 512] 275 394 _ _ _).trans rfl
set_option maxRecDepth 4000 in
theorem b116_403 (X : smX) (x0 : Nat) (x1 : Nat) (x2 : Nat) (x4 : Int32) (x6 : Int32) (s0 : Int64) (h : smH) : sm_E PP X 116 403 [(0, .retAddr x0), (1, .ref x1), (2, .ref x2), (4, .int x4), (6, .int x6)] [.long s0] h =
    sm_vc h x1 7 (sm_cR (sm_C PP X 102 [.ref x1, .int (nI 0)] h) fun w1 h2 => sm_E PP X 116 410 [(0, .retAddr x0), (1, .ref x1), (2, .ref x2), (4, .int x4), (6, .int x6), (13, .long s0)] (w1.toList ++ []) h2) :=
  (sm_blk PP X 116 [0, 7, 19, 26, 29, 34, 49, 61, 67, 74, 93, 98, 112, 121, 122, 139, 157, 168, 178, 191, 200, 206, 212, 214, 225, 236, 243, 257, 261, 273, 287, 316, 328, 344, 352, 358, 376, 383, 394, 397, 403, 410, 415, 423, 428, 435, 445, 456, 459, 461, 465, 477, 487, 497, 504, 511, 512] 275 403 _ _ _).trans rfl
set_option maxRecDepth 4000 in
theorem b116_410 (X : smX) (x0 : Nat) (x1 : Nat) (x2 : Nat) (x4 : Int32) (x6 : Int32) (x13 : Int64) (s0 : Int32) (h : smH) : sm_E PP X 116 410 [(0, .retAddr x0), (1, .ref x1), (2, .ref x2), (4, .int x4), (6, .int x6), (13, .long x13)] [.int s0] h =
    sm_vc h x1 7 (sm_cR (sm_C PP X 105 [.ref x1, .int (nI 0)] h) fun w1 h2 => sm_E PP X 116 415 [(0, .retAddr x0), (1, .ref x1), (2, .ref x2), (4, .int x4), (6, .int x6), (13, .long x13)] (w1.toList ++ [.int s0]) h2) :=
  (sm_blk PP X 116 [0, 7, 19, 26, 29, 34, 49, 61, 67, 74, 93, 98, 112, 121, 122, 139, 157, 168, 178, 191, 200, 206, 212, 214, 225, 236, 243, 257, 261, 273, 287, 316, 328, 344, 352, 358, 376, 383, 394, 397, 403, 410, 415, 423, 428, 435, 445, 456, 459, 461, 465, 477, 487, 497, 504, 511, 512] 275 410 _ _ _).trans rfl
set_option maxRecDepth 4000 in
theorem b116_415 (X : smX) (x0 : Nat) (x1 : Nat) (x2 : Nat) (x4 : Int32) (x6 : Int32) (x13 : Int64) (s0 : Int32) (s1 : Int32) (h : smH) : sm_E PP X 116 415 [(0, .retAddr x0), (1, .ref x1), (2, .ref x2), (4, .int x4), (6, .int x6), (13, .long x13)] [.int s0, .int s1] h =
    if s1 = s0 then (sm_vc h x1 7 (sm_cR (sm_C PP X 103 [.ref x1, .int (nI 0)] h) fun w1 h2 => sm_E PP X 116 423 [(0, .retAddr x0), (1, .ref x1), (2, .ref x2), (4, .int x4), (6, .int x6), (13, .long x13)] (w1.toList ++ []) h2)) else sm_E PP X 116 459 [] [] h :=
  (sm_blk PP X 116 [0, 7, 19, 26, 29, 34, 49, 61, 67, 74, 93, 98, 112, 121, 122, 139, 157, 168, 178, 191, 200, 206, 212, 214, 225, 236, 243, 257, 261, 273, 287, 316, 328, 344, 352, 358, 376, 383, 394, 397, 403, 410, 415, 423, 428, 435, 445, 456, 459, 461, 465, 477, 487, 497, 504, 511, 512] 275 415 _ _ _).trans rfl
set_option maxRecDepth 4000 in
theorem b116_423 (X : smX) (x0 : Nat) (x1 : Nat) (x2 : Nat) (x4 : Int32) (x6 : Int32) (x13 : Int64) (s0 : Int32) (h : smH) : sm_E PP X 116 423 [(0, .retAddr x0), (1, .ref x1), (2, .ref x2), (4, .int x4), (6, .int x6), (13, .long x13)] [.int s0] h =
    sm_vc h x1 7 (sm_cR (sm_C PP X 105 [.ref x1, .int (nI 0)] h) fun w1 h2 => sm_E PP X 116 428 [(0, .retAddr x0), (1, .ref x1), (2, .ref x2), (4, .int x4), (6, .int x6), (13, .long x13)] (w1.toList ++ [.int s0]) h2) :=
  (sm_blk PP X 116 [0, 7, 19, 26, 29, 34, 49, 61, 67, 74, 93, 98, 112, 121, 122, 139, 157, 168, 178, 191, 200, 206, 212, 214, 225, 236, 243, 257, 261, 273, 287, 316, 328, 344, 352, 358, 376, 383, 394, 397, 403, 410, 415, 423, 428, 435, 445, 456, 459, 461, 465, 477, 487, 497, 504, 511, 512] 275 423 _ _ _).trans rfl
set_option maxRecDepth 4000 in
theorem b116_459 (X : smX) (h : smH) : sm_E PP X 116 459 [] [] h =
    if narrow (sm_nk 1) (.int (nI 0)) = .int (nI 0) then some (some (.int (nI 0)), h) else none :=
  (sm_blk PP X 116 [0, 7, 19, 26, 29, 34, 49, 61, 67, 74, 93, 98, 112, 121, 122, 139, 157, 168, 178, 191, 200, 206, 212, 214, 225, 236, 243, 257, 261, 273, 287, 316, 328, 344, 352, 358, 376, 383, 394, 397, 403, 410, 415, 423, 428, 435, 445, 456, 459, 461, 465, 477, 487, 497, 504, 511, 512] 275 459 _ _ _).trans rfl
set_option maxRecDepth 4000 in
theorem b116_428 (X : smX) (x0 : Nat) (x1 : Nat) (x2 : Nat) (x4 : Int32) (x6 : Int32) (x13 : Int64) (s0 : Int32) (s1 : Int32) (h : smH) : sm_E PP X 116 428 [(0, .retAddr x0), (1, .ref x1), (2, .ref x2), (4, .int x4), (6, .int x6), (13, .long x13)] [.int s0, .int s1] h =
    if s1 = s0 then (sm_cR (sm_C PP X 109 [.ref x1] h) fun w1 h2 => sm_E PP X 116 435 [(0, .retAddr x0), (1, .ref x1), (2, .ref x2), (4, .int x4), (6, .int x6), (13, .long x13)] (w1.toList ++ []) h2) else sm_E PP X 116 459 [] [] h :=
  (sm_blk PP X 116 [0, 7, 19, 26, 29, 34, 49, 61, 67, 74, 93, 98, 112, 121, 122, 139, 157, 168, 178, 191, 200, 206, 212, 214, 225, 236, 243, 257, 261, 273, 287, 316, 328, 344, 352, 358, 376, 383, 394, 397, 403, 410, 415, 423, 428, 435, 445, 456, 459, 461, 465, 477, 487, 497, 504, 511, 512] 275 428 _ _ _).trans rfl
set_option maxRecDepth 4000 in
theorem b116_435 (X : smX) (x0 : Nat) (x1 : Nat) (x2 : Nat) (x4 : Int32) (x6 : Int32) (x13 : Int64) (s0 : Int64) (h : smH) : sm_E PP X 116 435 [(0, .retAddr x0), (1, .ref x1), (2, .ref x2), (4, .int x4), (6, .int x6), (13, .long x13)] [.long s0] h =
    if (lg_cmp s0 x13) = 0 then (sm_vc h x1 7 (sm_cR (sm_C PP X 60 [.ref x1] h) fun w1 h2 => sm_E PP X 116 445 [(0, .retAddr x0), (1, .ref x1), (2, .ref x2), (4, .int x4), (6, .int x6), (13, .long x13)] (w1.toList ++ []) h2)) else sm_E PP X 116 459 [] [] h :=
  (sm_blk PP X 116 [0, 7, 19, 26, 29, 34, 49, 61, 67, 74, 93, 98, 112, 121, 122, 139, 157, 168, 178, 191, 200, 206, 212, 214, 225, 236, 243, 257, 261, 273, 287, 316, 328, 344, 352, 358, 376, 383, 394, 397, 403, 410, 415, 423, 428, 435, 445, 456, 459, 461, 465, 477, 487, 497, 504, 511, 512] 275 435 _ _ _).trans rfl
set_option maxRecDepth 4000 in
theorem b116_445 (X : smX) (x0 : Nat) (x1 : Nat) (x2 : Nat) (x4 : Int32) (x6 : Int32) (x13 : Int64) (s0 : Int32) (h : smH) : sm_E PP X 116 445 [(0, .retAddr x0), (1, .ref x1), (2, .ref x2), (4, .int x4), (6, .int x6), (13, .long x13)] [.int s0] h =
    if s0 = (-nI 2) then (sm_cR (sm_C PP X 115 [.ref x1, .int x6] h) fun w1 h2 => sm_E PP X 116 456 [(0, .retAddr x0), (1, .ref x1), (2, .ref x2), (4, .int x4), (13, .long x13)] (w1.toList ++ []) h2) else sm_E PP X 116 459 [] [] h :=
  (sm_blk PP X 116 [0, 7, 19, 26, 29, 34, 49, 61, 67, 74, 93, 98, 112, 121, 122, 139, 157, 168, 178, 191, 200, 206, 212, 214, 225, 236, 243, 257, 261, 273, 287, 316, 328, 344, 352, 358, 376, 383, 394, 397, 403, 410, 415, 423, 428, 435, 445, 456, 459, 461, 465, 477, 487, 497, 504, 511, 512] 275 445 _ _ _).trans rfl
set_option maxRecDepth 4000 in
theorem b116_456 (X : smX) (x0 : Nat) (x1 : Nat) (x2 : Nat) (x4 : Int32) (x13 : Int64) (s0 : Int32) (h : smH) : sm_E PP X 116 456 [(0, .retAddr x0), (1, .ref x1), (2, .ref x2), (4, .int x4), (13, .long x13)] [.int s0] h =
    if s0 = 0 then (sm_E PP X 116 459 [] [] h) else sm_E PP X 116 461 [(0, .retAddr x0), (1, .ref x1), (2, .ref x2), (4, .int x4), (13, .long x13)] [] h :=
  (sm_blk PP X 116 [0, 7, 19, 26, 29, 34, 49, 61, 67, 74, 93, 98, 112, 121, 122, 139, 157, 168, 178, 191, 200, 206, 212, 214, 225, 236, 243, 257, 261, 273, 287, 316, 328, 344, 352, 358, 376, 383, 394, 397, 403, 410, 415, 423, 428, 435, 445, 456, 459, 461, 465, 477, 487, 497, 504, 511, 512] 275 456 _ _ _).trans rfl
set_option maxRecDepth 4000 in
theorem b116_461 (X : smX) (x0 : Nat) (x1 : Nat) (x2 : Nat) (x4 : Int32) (x13 : Int64) (h : smH) : sm_E PP X 116 461 [(0, .retAddr x0), (1, .ref x1), (2, .ref x2), (4, .int x4), (13, .long x13)] [] h =
    sm_vc h x1 7 (sm_cR (sm_C PP X 60 [.ref x1] h) fun w1 h2 => sm_E PP X 116 465 [(0, .retAddr x0), (1, .ref x1), (2, .ref x2), (4, .int x4), (13, .long x13)] (w1.toList ++ []) h2) :=
  (sm_blk PP X 116 [0, 7, 19, 26, 29, 34, 49, 61, 67, 74, 93, 98, 112, 121, 122, 139, 157, 168, 178, 191, 200, 206, 212, 214, 225, 236, 243, 257, 261, 273, 287, 316, 328, 344, 352, 358, 376, 383, 394, 397, 403, 410, 415, 423, 428, 435, 445, 456, 459, 461, 465, 477, 487, 497, 504, 511, 512] 275 461 _ _ _).trans rfl
set_option maxRecDepth 4000 in
theorem b116_465 (X : smX) (x0 : Nat) (x1 : Nat) (x2 : Nat) (x4 : Int32) (x13 : Int64) (s0 : Int32) (h : smH) : sm_E PP X 116 465 [(0, .retAddr x0), (1, .ref x1), (2, .ref x2), (4, .int x4), (13, .long x13)] [.int s0] h =
    if s0 ≤ 0 then (sm_cR (sm_C PP X 109 [.ref x1] h) fun w1 h2 => sm_E PP X 116 477 [(0, .retAddr x0), (1, .ref x1), (2, .ref x2), (4, .int x4), (13, .long x13)] (w1.toList ++ []) h2) else sm_E PP X 116 461 [(0, .retAddr x0), (1, .ref x1), (2, .ref x2), (4, .int x4), (13, .long x13)] [] h :=
  (sm_blk PP X 116 [0, 7, 19, 26, 29, 34, 49, 61, 67, 74, 93, 98, 112, 121, 122, 139, 157, 168, 178, 191, 200, 206, 212, 214, 225, 236, 243, 257, 261, 273, 287, 316, 328, 344, 352, 358, 376, 383, 394, 397, 403, 410, 415, 423, 428, 435, 445, 456, 459, 461, 465, 477, 487, 497, 504, 511, 512] 275 465 _ _ _).trans rfl
set_option maxRecDepth 4000 in
theorem b116_477 (X : smX) (x0 : Nat) (x1 : Nat) (x2 : Nat) (x4 : Int32) (x13 : Int64) (s0 : Int64) (h : smH) : sm_E PP X 116 477 [(0, .retAddr x0), (1, .ref x1), (2, .ref x2), (4, .int x4), (13, .long x13)] [.long s0] h =
    if (lg_cmp s0 x13) = 0 then (sm_E PP X 116 487 [(0, .retAddr x0), (1, .ref x1), (2, .ref x2), (3, .int (nI 0)), (4, .int x4)] [] h) else if narrow (sm_nk 1) (.int (nI 0)) = .int (nI 0) then some (some (.int (nI 0)), h) else none :=
  (sm_blk PP X 116 [0, 7, 19, 26, 29, 34, 49, 61, 67, 74, 93, 98, 112, 121, 122, 139, 157, 168, 178, 191, 200, 206, 212, 214, 225, 236, 243, 257, 261, 273, 287, 316, 328, 344, 352, 358, 376, 383, 394, 397, 403, 410, 415, 423, 428, 435, 445, 456, 459, 461, 465, 477, 487, 497, 504, 511, 512] 275 477 _ _ _).trans rfl
