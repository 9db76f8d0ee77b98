/-! the tables' words (the skeleton's part A), then the program itself as data, printed by wip/whole/gen.py out of the claim's printed texts -/
/-- a private method of a class that the tables say can be made, by its rows of tables_1 -/
def lw_okq (q : MethodName × Nat) : Prop := (q.1.cls ≠ "java/lang/invoke/MethodHandle" ∧ q.1.cls ≠ "java/lang/invoke/VarHandle") ∧ Cond.instantiable q.1.cls q.2 ∈ tables_1 ∧ Cond.privateMethod q.1 ∈ tables_1 ∧ Cond.instanceMethod q.1 ∈ tables_1
theorem lw_p0 : lw_okq (⟨"WornSums$NumberWords", "write", "(I)V"⟩, 2) := ⟨⟨by decide +kernel, by decide +kernel⟩, List.mem_of_getElem? (i := 118) (by decide +kernel), List.mem_of_getElem? (i := 124) (by decide +kernel), List.mem_of_getElem? (i := 125) (by decide +kernel)⟩
theorem lw_p1 : lw_okq (⟨"WornSums$NumberWords", "addName", "(ILjava/lang/String;I)V"⟩, 2) := ⟨⟨by decide +kernel, by decide +kernel⟩, List.mem_of_getElem? (i := 118) (by decide +kernel), List.mem_of_getElem? (i := 129) (by decide +kernel), List.mem_of_getElem? (i := 130) (by decide +kernel)⟩
theorem lw_p2 : lw_okq (⟨"WornSums$NumberWords", "addSign", "(IC)V"⟩, 2) := ⟨⟨by decide +kernel, by decide +kernel⟩, List.mem_of_getElem? (i := 118) (by decide +kernel), List.mem_of_getElem? (i := 181) (by decide +kernel), List.mem_of_getElem? (i := 182) (by decide +kernel)⟩
theorem lw_p3 : lw_okq (⟨"WornSums$NumberWords", "writeTens", "(I)V"⟩, 2) := ⟨⟨by decide +kernel, by decide +kernel⟩, List.mem_of_getElem? (i := 118) (by decide +kernel), List.mem_of_getElem? (i := 189) (by decide +kernel), List.mem_of_getElem? (i := 190) (by decide +kernel)⟩
theorem lw_p4 : lw_okq (⟨"WornSums$NumberWords", "addNumber", "(II)V"⟩, 2) := ⟨⟨by decide +kernel, by decide +kernel⟩, List.mem_of_getElem? (i := 118) (by decide +kernel), List.mem_of_getElem? (i := 194) (by decide +kernel), List.mem_of_getElem? (i := 195) (by decide +kernel)⟩
theorem lw_p5 : lw_okq (⟨"WornSums$NumberWords", "writeHundreds", "(I)V"⟩, 2) := ⟨⟨by decide +kernel, by decide +kernel⟩, List.mem_of_getElem? (i := 118) (by decide +kernel), List.mem_of_getElem? (i := 206) (by decide +kernel), List.mem_of_getElem? (i := 207) (by decide +kernel)⟩
theorem lw_p6 : lw_okq (⟨"WornSums$NumberWords", "addAll", "(ILjava/lang/String;)V"⟩, 2) := ⟨⟨by decide +kernel, by decide +kernel⟩, List.mem_of_getElem? (i := 118) (by decide +kernel), List.mem_of_getElem? (i := 211) (by decide +kernel), List.mem_of_getElem? (i := 212) (by decide +kernel)⟩
theorem lw_p7 : lw_okq (⟨"WornSums$Agreeing", "add", "(II)V"⟩, 5) := ⟨⟨by decide +kernel, by decide +kernel⟩, List.mem_of_getElem? (i := 235) (by decide +kernel), List.mem_of_getElem? (i := 392) (by decide +kernel), List.mem_of_getElem? (i := 393) (by decide +kernel)⟩
theorem lw_p8 : lw_okq (⟨"WornSums", "agreeingOf", "(I)LWornSums$Agreeing;"⟩, 7) := ⟨⟨by decide +kernel, by decide +kernel⟩, List.mem_of_getElem? (i := 17) (by decide +kernel), List.mem_of_getElem? (i := 443) (by decide +kernel), List.mem_of_getElem? (i := 444) (by decide +kernel)⟩
theorem lw_p9 : lw_okq (⟨"WornSums$Agreeing", "rankOf", "(I)I"⟩, 5) := ⟨⟨by decide +kernel, by decide +kernel⟩, List.mem_of_getElem? (i := 235) (by decide +kernel), List.mem_of_getElem? (i := 469) (by decide +kernel), List.mem_of_getElem? (i := 470) (by decide +kernel)⟩
theorem lw_p10 : lw_okq (⟨"WornSums$Findings", "mostOfOneLetter", "(LWornSums$Agreeing;ILWornSums$NumberWords;)I"⟩, 8) := ⟨⟨by decide +kernel, by decide +kernel⟩, List.mem_of_getElem? (i := 226) (by decide +kernel), List.mem_of_getElem? (i := 498) (by decide +kernel), List.mem_of_getElem? (i := 499) (by decide +kernel)⟩
theorem lw_p11 : lw_okq (⟨"WornSums$Findings", "findLeastOfAnySum", "(I)V"⟩, 8) := ⟨⟨by decide +kernel, by decide +kernel⟩, List.mem_of_getElem? (i := 226) (by decide +kernel), List.mem_of_getElem? (i := 522) (by decide +kernel), List.mem_of_getElem? (i := 523) (by decide +kernel)⟩
theorem lw_p12 : lw_okq (⟨"WornSums$Findings", "findLeastOfTotal", "(II)V"⟩, 8) := ⟨⟨by decide +kernel, by decide +kernel⟩, List.mem_of_getElem? (i := 226) (by decide +kernel), List.mem_of_getElem? (i := 528) (by decide +kernel), List.mem_of_getElem? (i := 529) (by decide +kernel)⟩
theorem lw_p13 : lw_okq (⟨"WornSums$Findings", "fillLeastBySum", "(II)V"⟩, 8) := ⟨⟨by decide +kernel, by decide +kernel⟩, List.mem_of_getElem? (i := 226) (by decide +kernel), List.mem_of_getElem? (i := 532) (by decide +kernel), List.mem_of_getElem? (i := 533) (by decide +kernel)⟩
theorem lw_p14 : lw_okq (⟨"WornSums$Findings", "reachWithout", "(III)V"⟩, 8) := ⟨⟨by decide +kernel, by decide +kernel⟩, List.mem_of_getElem? (i := 226) (by decide +kernel), List.mem_of_getElem? (i := 563) (by decide +kernel), List.mem_of_getElem? (i := 564) (by decide +kernel)⟩
theorem lw_p15 : lw_okq (⟨"WornSums$Findings", "reachOn", "(LWornSums$Agreeing;I)V"⟩, 8) := ⟨⟨by decide +kernel, by decide +kernel⟩, List.mem_of_getElem? (i := 226) (by decide +kernel), List.mem_of_getElem? (i := 567) (by decide +kernel), List.mem_of_getElem? (i := 568) (by decide +kernel)⟩
def lw_privs_1 : List (MethodName × Nat) := [(⟨"WornSums$NumberWords", "write", "(I)V"⟩, 2), (⟨"WornSums$NumberWords", "addName", "(ILjava/lang/String;I)V"⟩, 2), (⟨"WornSums$NumberWords", "addSign", "(IC)V"⟩, 2), (⟨"WornSums$NumberWords", "writeTens", "(I)V"⟩, 2), (⟨"WornSums$NumberWords", "addNumber", "(II)V"⟩, 2), (⟨"WornSums$NumberWords", "writeHundreds", "(I)V"⟩, 2), (⟨"WornSums$NumberWords", "addAll", "(ILjava/lang/String;)V"⟩, 2), (⟨"WornSums$Agreeing", "add", "(II)V"⟩, 5), (⟨"WornSums", "agreeingOf", "(I)LWornSums$Agreeing;"⟩, 7), (⟨"WornSums$Agreeing", "rankOf", "(I)I"⟩, 5), (⟨"WornSums$Findings", "mostOfOneLetter", "(LWornSums$Agreeing;ILWornSums$NumberWords;)I"⟩, 8), (⟨"WornSums$Findings", "findLeastOfAnySum", "(I)V"⟩, 8), (⟨"WornSums$Findings", "findLeastOfTotal", "(II)V"⟩, 8), (⟨"WornSums$Findings", "fillLeastBySum", "(II)V"⟩, 8), (⟨"WornSums$Findings", "reachWithout", "(III)V"⟩, 8), (⟨"WornSums$Findings", "reachOn", "(LWornSums$Agreeing;I)V"⟩, 8)]
theorem lw_r1 : ∀ q ∈ lw_privs_1, lw_okq q := List.forall_mem_cons.mpr ⟨lw_p0, List.forall_mem_cons.mpr ⟨lw_p1, List.forall_mem_cons.mpr ⟨lw_p2, List.forall_mem_cons.mpr ⟨lw_p3, List.forall_mem_cons.mpr ⟨lw_p4, List.forall_mem_cons.mpr ⟨lw_p5, List.forall_mem_cons.mpr ⟨lw_p6, List.forall_mem_cons.mpr ⟨lw_p7, List.forall_mem_cons.mpr ⟨lw_p8, List.forall_mem_cons.mpr ⟨lw_p9, List.forall_mem_cons.mpr ⟨lw_p10, List.forall_mem_cons.mpr ⟨lw_p11, List.forall_mem_cons.mpr ⟨lw_p12, List.forall_mem_cons.mpr ⟨lw_p13, List.forall_mem_cons.mpr ⟨lw_p14, List.forall_mem_cons.mpr ⟨lw_p15, fun _ h => absurd h List.not_mem_nil⟩⟩⟩⟩⟩⟩⟩⟩⟩⟩⟩⟩⟩⟩⟩⟩
theorem lw_p16 : lw_okq (⟨"WornSums$Findings", "isReachedBy", "(LWornSums$Agreeing;I)Z"⟩, 8) := ⟨⟨by decide +kernel, by decide +kernel⟩, List.mem_of_getElem? (i := 226) (by decide +kernel), List.mem_of_getElem? (i := 571) (by decide +kernel), List.mem_of_getElem? (i := 572) (by decide +kernel)⟩
theorem lw_p17 : lw_okq (⟨"WornSums$Findings", "isReached", "(I)Z"⟩, 8) := ⟨⟨by decide +kernel, by decide +kernel⟩, List.mem_of_getElem? (i := 226) (by decide +kernel), List.mem_of_getElem? (i := 575) (by decide +kernel), List.mem_of_getElem? (i := 576) (by decide +kernel)⟩
theorem lw_p18 : lw_okq (⟨"WornSums$Text", "standsInWords", "(I)Z"⟩, 2) := ⟨⟨by decide +kernel, by decide +kernel⟩, List.mem_of_getElem? (i := 25) (by decide +kernel), List.mem_of_getElem? (i := 608) (by decide +kernel), List.mem_of_getElem? (i := 609) (by decide +kernel)⟩
theorem lw_p19 : lw_okq (⟨"WornSums", "startChange", "()V"⟩, 7) := ⟨⟨by decide +kernel, by decide +kernel⟩, List.mem_of_getElem? (i := 17) (by decide +kernel), List.mem_of_getElem? (i := 625) (by decide +kernel), List.mem_of_getElem? (i := 626) (by decide +kernel)⟩
def lw_privs_2 : List (MethodName × Nat) := [(⟨"WornSums$Findings", "isReachedBy", "(LWornSums$Agreeing;I)Z"⟩, 8), (⟨"WornSums$Findings", "isReached", "(I)Z"⟩, 8), (⟨"WornSums$Text", "standsInWords", "(I)Z"⟩, 2), (⟨"WornSums", "startChange", "()V"⟩, 7)]
theorem lw_r2 : ∀ q ∈ lw_privs_2, lw_okq q := List.forall_mem_cons.mpr ⟨lw_p16, List.forall_mem_cons.mpr ⟨lw_p17, List.forall_mem_cons.mpr ⟨lw_p18, List.forall_mem_cons.mpr ⟨lw_p19, fun _ h => absurd h List.not_mem_nil⟩⟩⟩⟩
def lw_privs : List (MethodName × Nat) := lw_privs_1 ++ (lw_privs_2)
def lw_tbl : List Cond := k2_sels lw_privs ++ tables_1
theorem lw_privs_ok : ∀ q ∈ lw_privs, lw_okq q := by
  show ∀ q ∈ lw_privs_1 ++ (lw_privs_2), lw_okq q
  exact List.forall_mem_append.mpr ⟨lw_r1, lw_r2⟩

def tbG : List Cond := lw_tbl.filter goodWord
theorem tb_mem {w : Cond} (h : w ∈ lw_tbl) (g : goodWord w = true) : w ∈ tbG := List.mem_filter.mpr ⟨h, g⟩
theorem tbs {w : Cond} (i : Nat) (h : (k2_sels lw_privs)[i]? = some w) (g : goodWord w = true) : w ∈ tbG := tb_mem (List.mem_append_left _ (List.mem_of_getElem? h)) g
theorem tb1 {w : Cond} (i : Nat) (h : tables_1_1[i]? = some w) (g : goodWord w = true) : w ∈ tbG := tb_mem (List.mem_append_right _ (show w ∈ tables_1 from List.mem_append_left _ (List.mem_of_getElem? h))) g
theorem tb2 {w : Cond} (i : Nat) (h : tables_1_2[i]? = some w) (g : goodWord w = true) : w ∈ tbG := tb_mem (List.mem_append_right _ (show w ∈ tables_1 from List.mem_append_right _ (List.mem_append_left _ (List.mem_of_getElem? h)))) g
theorem tb3 {w : Cond} (i : Nat) (h : tables_1_3[i]? = some w) (g : goodWord w = true) : w ∈ tbG := tb_mem (List.mem_append_right _ (show w ∈ tables_1 from List.mem_append_right _ (List.mem_append_right _ (List.mem_of_getElem? h)))) g
def uT_0 : u_T := fun k => match k with
  | 0 => ("WornSums$Agreeing", "numbers", "[I", true)
  | 1 => ("WornSums$Agreeing", "doubts", "[I", true)
  | 2 => ("WornSums$Agreeing", "size", "I", false)
  | 3 => ("WornSums$Agreeing", "byWords", "I", false)
  | _ => ("WornSums$Agreeing", "byFigures", "I", false)
def uT_1 : u_T := fun k => match k with
  | 0 => ("WornSums$Findings", "agreeing", "[LWornSums$Agreeing;", true)
  | 1 => ("WornSums$Findings", "agreeingKnown", "Z", false)
  | 2 => ("WornSums$Findings", "leastBySum", "[[I", true)
  | 3 => ("WornSums$Findings", "leastNumbers", "[I", true)
  | 4 => ("WornSums$Findings", "leastDoubt", "I", false)
  | 5 => ("WornSums$Findings", "leastKnown", "Z", false)
  | 6 => ("WornSums$Findings", "reached", "[Z", true)
  | _ => ("WornSums$Findings", "letterCounts", "[I", true)
def uT_2 : u_T := fun k => match k with
  | 0 => ("WornSums$History", "sheets", "[LWornSums$Sheet;", true)
  | 1 => ("WornSums$History", "next", "I", false)
  | _ => ("WornSums$History", "size", "I", false)
def uT_3 : u_T := fun k => match k with
  | 0 => ("WornSums$NumberWords", "signs", "[C", true)
  | _ => ("WornSums$NumberWords", "lengths", "[I", true)
def uT_4 : u_T := fun k => match k with
  | 0 => ("WornSums$Row", "signs", "[C", true)
  | _ => ("WornSums$Row", "length", "I", false)
def uT_5 : u_T := fun k => match k with
  | 0 => ("WornSums$Sheet", "words", "[LWornSums$Row;", true)
  | 1 => ("WornSums$Sheet", "figures", "[LWornSums$Row;", true)
  | 2 => ("WornSums$Sheet", "size", "I", false)
  | 3 => ("WornSums$Sheet", "slack", "I", false)
  | _ => ("WornSums$Sheet", "total", "I", false)
def uT_6 : u_T := fun k => match k with
  | 0 => ("WornSums$Text", "letters", "[C", true)
  | _ => ("WornSums$Text", "length", "I", false)
def uT_7 : u_T := fun k => match k with
  | 0 => ("WornSums", "text", "LWornSums$Text;", true)
  | 1 => ("WornSums", "sheet", "LWornSums$Sheet;", true)
  | 2 => ("WornSums", "history", "LWornSums$History;", true)
  | 3 => ("WornSums", "images", "[LWornSums$Sheet;", true)
  | 4 => ("WornSums", "imageKept", "[Z", true)
  | 5 => ("WornSums", "numberWords", "LWornSums$NumberWords;", true)
  | _ => ("WornSums", "findings", "LWornSums$Findings;", true)
def pp_cl : List vw_C := [("WornSums$Agreeing", uT_0, 5), ("WornSums$Findings", uT_1, 8), ("WornSums$History", uT_2, 3), ("WornSums$NumberWords", uT_3, 2), ("WornSums$Row", uT_4, 2), ("WornSums$Sheet", uT_5, 5), ("WornSums$Text", uT_6, 2), ("WornSums", uT_7, 7)]
def pp_ty : List (List FieldType) := [[.array .int, .array .int, .int, .int, .int], [.array (.object "WornSums$Agreeing"), .boolean, .array (.array .int), .array .int, .int, .boolean, .array .boolean, .array .int], [.array (.object "WornSums$Sheet"), .int, .int], [.array .char, .array .int], [.array .char, .int], [.array (.object "WornSums$Row"), .array (.object "WornSums$Row"), .int, .int, .int], [.array .char, .int], [.object "WornSums$Text", .object "WornSums$Sheet", .object "WornSums$History", .array (.object "WornSums$Sheet"), .array .boolean, .object "WornSums$NumberWords", .object "WornSums$Findings"]]
def pp_df : List (List Value) := [[.null, .null, .int 0, .int 0, .int 0], [.null, .int 0, .null, .null, .int 0, .int 0, .null, .null], [.null, .int 0, .int 0], [.null, .null], [.null, .int 0], [.null, .null, .int 0, .int 0, .int 0], [.null, .int 0], [.null, .null, .null, .null, .null, .null, .null]]
def pp_cn : List String := ["WornSums$Agreeing", "WornSums$Findings", "WornSums$History", "WornSums$NumberWords", "WornSums$Row", "WornSums$Sheet", "WornSums$Text", "WornSums"]
def pp_st : List (List Int32) := [[122, 101, 114, 111, 32, 111, 110, 101, 32, 116, 119, 111, 32, 116, 104, 114, 101, 101, 32, 102, 111, 117, 114, 32, 102, 105, 118, 101, 32, 115, 105, 120, 32, 115, 101, 118, 101, 110, 32, 101, 105, 103, 104, 116, 32, 110, 105, 110, 101], [116, 101, 110, 32, 101, 108, 101, 118, 101, 110, 32, 116, 119, 101, 108, 118, 101, 32, 116, 104, 105, 114, 116, 101, 101, 110, 32, 102, 111, 117, 114, 116, 101, 101, 110, 32, 102, 105, 102, 116, 101, 101, 110, 32, 115, 105, 120, 116, 101, 101, 110, 32, 115, 101, 118, 101, 110, 116, 101, 101, 110, 32, 101, 105, 103, 104, 116, 101, 101, 110, 32, 110, 105, 110, 101, 116, 101, 101, 110], [116, 119, 101, 110, 116, 121, 32, 116, 104, 105, 114, 116, 121, 32, 102, 111, 114, 116, 121, 32, 102, 105, 102, 116, 121, 32, 115, 105, 120, 116, 121, 32, 115, 101, 118, 101, 110, 116, 121, 32, 101, 105, 103, 104, 116, 121, 32, 110, 105, 110, 101, 116, 121], [32, 104, 117, 110, 100, 114, 101, 100], [32, 97, 110, 100, 32], [48, 54, 48, 56, 49, 55, 51, 56, 52, 57, 53, 54, 54, 56]]
/-- WornSums$Text.<init>()V -/
def pc_0 : List (List (Nat × smI)) := [[(0, .aload_n 0, 1, 0, 0, 0), (1, .invokespecial 3, 3, 0, 0, 0), (4, .aload_n 0, 1, 0, 0, 0), (5, .bipush 40, 2, 40, 0, 0), (7, .newarray .char, 2, 0, 0, 0), (9, .putfield 9, 3, 6, 0, 1), (12, .aload_n 0, 1, 0, 0, 0), (13, .iconst 0, 1, 0, 0, 0), (14, .putfield 15, 3, 6, 1, 0)],
  [(17, .return_, 1, 0, 0, 0)]]
/-- WornSums$Row.<init>(I)V -/
def pc_1 : List (List (Nat × smI)) := [[(0, .aload_n 0, 1, 0, 0, 0), (1, .invokespecial 3, 3, 0, 0, 0), (4, .aload_n 0, 1, 0, 0, 0), (5, .iconst 0, 1, 0, 0, 0), (6, .putfield 9, 3, 4, 1, 0), (9, .aload_n 0, 1, 0, 0, 0), (10, .iload_n 1, 1, 0, 0, 0), (11, .iconst 0, 1, 0, 0, 0), (12, .invokestatic 15, 3, 0, 0, 1), (15, .newarray .char, 2, 0, 0, 0)],
  [(17, .putfield 21, 3, 4, 0, 1), (20, .return_, 1, 0, 0, 0)]]
/-- WornSums$Sheet.newRows(I)[LWornSums$Row; -/
def pc_2 : List (List (Nat × smI)) := [[(0, .bipush 6, 2, 6, 0, 0), (2, .anewarray 32, 3, 4, 0, 0), (5, .astore_n 1, 1, 0, 0, 0), (6, .iconst 0, 1, 0, 0, 0), (7, .istore_n 2, 1, 0, 0, 0), (8, .iload_n 2, 1, 0, 0, 0), (9, .aload_n 1, 1, 0, 0, 0), (10, .arraylength, 1, 0, 0, 0), (11, .if_icmp .ge 20, 3, 0, 0, 0), (14, .aload_n 1, 1, 0, 0, 0), (15, .iload_n 2, 1, 0, 0, 0)],
  [(16, .new 32, 3, 4, 0, 0), (19, .dup, 1, 0, 0, 0), (20, .iload_n 0, 1, 0, 0, 0), (21, .invokespecial 34, 3, 1, 1, 1), (24, .aastore, 1, 0, 0, 0), (25, .iinc 2 1, 3, 1, 0, 0), (28, .goto (-20), 3, 0, 0, 0), (31, .aload_n 1, 1, 0, 0, 0)],
  [(32, .areturn, 1, 0, 0, 0)]]
/-- WornSums$Sheet.<init>()V -/
def pc_3 : List (List (Nat × smI)) := [[(0, .aload_n 0, 1, 0, 0, 0), (1, .invokespecial 3, 3, 0, 0, 0), (4, .aload_n 0, 1, 0, 0, 0), (5, .bipush 31, 2, 31, 0, 0), (7, .invokestatic 9, 3, 2, 1, 0), (10, .putfield 15, 3, 5, 0, 1), (13, .aload_n 0, 1, 0, 0, 0), (14, .iconst 3, 1, 3, 0, 0), (15, .invokestatic 9, 3, 2, 1, 0)],
  [(18, .putfield 19, 3, 5, 1, 1), (21, .aload_n 0, 1, 0, 0, 0), (22, .iconst 0, 1, 0, 0, 0), (23, .putfield 22, 3, 5, 2, 0), (26, .aload_n 0, 1, 0, 0, 0), (27, .iconst 0, 1, 0, 0, 0), (28, .putfield 26, 3, 5, 3, 0), (31, .aload_n 0, 1, 0, 0, 0)],
  [(32, .bipush (-9), 2, 9, 1, 0), (34, .putfield 29, 3, 5, 4, 0), (37, .return_, 1, 0, 0, 0)]]
/-- WornSums.newSheets(I)[LWornSums$Sheet; -/
def pc_4 : List (List (Nat × smI)) := [[(0, .iload_n 0, 1, 0, 0, 0), (1, .iconst 0, 1, 0, 0, 0), (2, .invokestatic 209, 3, 0, 0, 1), (5, .anewarray 16, 3, 5, 0, 0), (8, .astore_n 1, 1, 0, 0, 0), (9, .iconst 0, 1, 0, 0, 0), (10, .istore_n 2, 1, 0, 0, 0), (11, .iload_n 2, 1, 0, 0, 0), (12, .aload_n 1, 1, 0, 0, 0), (13, .arraylength, 1, 0, 0, 0), (14, .if_icmp .ge 19, 3, 0, 0, 0)],
  [(17, .aload_n 1, 1, 0, 0, 0), (18, .iload_n 2, 1, 0, 0, 0), (19, .new 16, 3, 5, 0, 0), (22, .dup, 1, 0, 0, 0), (23, .invokespecial 18, 3, 3, 0, 1), (26, .aastore, 1, 0, 0, 0), (27, .iinc 2 1, 3, 1, 0, 0), (30, .goto (-19), 3, 0, 0, 0)],
  [(33, .aload_n 1, 1, 0, 0, 0), (34, .areturn, 1, 0, 0, 0)]]
/-- WornSums$History.<init>()V -/
def pc_5 : List (List (Nat × smI)) := [[(0, .aload_n 0, 1, 0, 0, 0), (1, .invokespecial 3, 3, 0, 0, 0), (4, .aload_n 0, 1, 0, 0, 0), (5, .bipush 8, 2, 8, 0, 0), (7, .invokestatic 9, 3, 4, 1, 0), (10, .putfield 13, 3, 2, 0, 1), (13, .aload_n 0, 1, 0, 0, 0), (14, .iconst 0, 1, 0, 0, 0), (15, .putfield 19, 3, 2, 1, 0)],
  [(18, .aload_n 0, 1, 0, 0, 0), (19, .iconst 0, 1, 0, 0, 0), (20, .putfield 23, 3, 2, 2, 0), (23, .return_, 1, 0, 0, 0)]]
/-- java/lang/String.coder()B -/
def pc_6 : List (List (Nat × smI)) := [[(0, .getstatic 38, 3, 1, 0, 0), (3, .ifCond .eq 10, 3, 0, 0, 0), (6, .aload_n 0, 1, 0, 0, 0), (7, .getfield 15, 3, 0, 0, 3), (10, .goto 4, 3, 0, 0, 0), (13, .iconst 1, 1, 1, 0, 0), (14, .ireturn, 1, 0, 0, 3)]]
/-- java/lang/String.length()I -/
def pc_7 : List (List (Nat × smI)) := [[(0, .aload_n 0, 1, 0, 0, 0), (1, .getfield 9, 3, 0, 0, 2), (4, .arraylength, 1, 0, 0, 0), (5, .aload_n 0, 1, 0, 0, 0), (6, .invokevirtual 335, 3, 6, 0, 0), (9, .ishr, 1, 0, 0, 0), (10, .ireturn, 1, 0, 0, 0)]]
/-- java/lang/String.isLatin1()Z -/
def pc_8 : List (List (Nat × smI)) := [[(0, .getstatic 38, 3, 1, 0, 0), (3, .ifCond .eq 14, 3, 0, 0, 0), (6, .aload_n 0, 1, 0, 0, 0), (7, .getfield 15, 3, 0, 0, 3), (10, .ifCond .ne 7, 3, 0, 0, 0), (13, .iconst 1, 1, 1, 0, 0), (14, .goto 4, 3, 0, 0, 0)],
  [(17, .iconst 0, 1, 0, 0, 0), (18, .ireturn, 1, 0, 0, 1)]]
/-- jdk/internal/util/Preconditions.checkIndex(IILjava/util/function/BiFunction;)I -/
def pc_9 : List (List (Nat × smI)) := [[(0, .iload_n 0, 1, 0, 0, 0), (1, .ifCond .lt 8, 3, 0, 0, 0), (4, .iload_n 0, 1, 0, 0, 0), (5, .iload_n 1, 1, 0, 0, 0), (6, .if_icmp .lt 10, 3, 0, 0, 0), (9, .aload_n 2, 1, 0, 0, 0), (10, .iload_n 0, 1, 0, 0, 0), (11, .iload_n 1, 1, 0, 0, 0)],
  [(16, .iload_n 0, 1, 0, 0, 0), (17, .ireturn, 1, 0, 0, 0)]]
/-- java/lang/String.checkIndex(II)V -/
def pc_10 : List (List (Nat × smI)) := [[(0, .iload_n 0, 1, 0, 0, 0), (1, .iload_n 1, 1, 0, 0, 0), (2, .getstatic 1053, 3, 41, 0, 1), (5, .invokestatic 1059, 3, 9, 3, 0), (8, .pop, 1, 0, 0, 0), (9, .return_, 1, 0, 0, 0)]]
/-- java/lang/StringLatin1.charAt([BI)C -/
def pc_11 : List (List (Nat × smI)) := [[(0, .iload_n 1, 1, 0, 0, 0), (1, .aload_n 0, 1, 0, 0, 0), (2, .arraylength, 1, 0, 0, 0), (3, .invokestatic 9, 3, 10, 2, 0), (6, .aload_n 0, 1, 0, 0, 0), (7, .iload_n 1, 1, 0, 0, 0), (8, .baload, 1, 0, 0, 1), (9, .sipush 255, 3, 255, 0, 0), (12, .iand, 1, 0, 0, 0), (13, .i2c, 1, 0, 0, 0), (14, .ireturn, 1, 0, 0, 2)]]
/-- java/lang/String.charAt(I)C -/
def pc_12 : List (List (Nat × smI)) := [[(0, .aload_n 0, 1, 0, 0, 0), (1, .invokevirtual 492, 3, 8, 0, 0), (4, .ifCond .eq 12, 3, 0, 0, 0), (7, .aload_n 0, 1, 0, 0, 0), (8, .getfield 9, 3, 0, 0, 2), (11, .iload_n 1, 1, 0, 0, 0), (12, .invokestatic 495, 3, 11, 2, 0), (15, .ireturn, 1, 0, 0, 2)],
  [(16, .aload_n 0, 1, 0, 0, 0), (17, .getfield 9, 3, 0, 0, 2), (20, .iload_n 1, 1, 0, 0, 0), (24, .ireturn, 1, 0, 0, 2)]]
/-- WornSums.isNumber(I)Z -/
def pc_13 : List (List (Nat × smI)) := [[(0, .iload_n 0, 1, 0, 0, 0), (1, .ifCond .lt 14, 3, 0, 0, 0), (4, .iload_n 0, 1, 0, 0, 0), (5, .sipush 1000, 3, 1000, 0, 0), (8, .if_icmp .ge 7, 3, 0, 0, 0), (11, .iconst 1, 1, 1, 0, 0), (12, .goto 4, 3, 0, 0, 0), (15, .iconst 0, 1, 0, 0, 0)],
  [(16, .ireturn, 1, 0, 0, 1)]]
/-- WornSums$NumberWords.addSign(IC)V -/
def pc_14 : List (List (Nat × smI)) := [[(0, .iload_n 1, 1, 0, 0, 0), (1, .invokestatic 73, 3, 13, 1, 0), (4, .ifCond .eq 14, 3, 0, 0, 0), (7, .aload_n 0, 1, 0, 0, 0), (8, .getfield 15, 3, 3, 1, 1), (11, .iload_n 1, 1, 0, 0, 0), (12, .iaload, 1, 0, 0, 0), (13, .bipush 31, 2, 31, 0, 0), (15, .if_icmp .lt 4, 3, 0, 0, 0)],
  [(18, .return_, 1, 0, 0, 0), (19, .aload_n 0, 1, 0, 0, 0), (20, .getfield 9, 3, 3, 0, 1), (23, .iload_n 1, 1, 0, 0, 0), (24, .bipush 31, 2, 31, 0, 0), (26, .imul, 1, 0, 0, 0), (27, .aload_n 0, 1, 0, 0, 0), (28, .getfield 15, 3, 3, 1, 1), (31, .iload_n 1, 1, 0, 0, 0)],
  [(32, .iaload, 1, 0, 0, 0), (33, .iadd, 1, 0, 0, 0), (34, .iload_n 2, 1, 0, 0, 0), (35, .castore, 1, 0, 0, 0), (36, .aload_n 0, 1, 0, 0, 0), (37, .getfield 15, 3, 3, 1, 1), (40, .iload_n 1, 1, 0, 0, 0), (41, .dup2, 1, 0, 0, 0), (42, .iaload, 1, 0, 0, 0), (43, .iconst 1, 1, 1, 0, 0), (44, .iadd, 1, 0, 0, 0), (45, .iastore, 1, 0, 0, 0), (46, .return_, 1, 0, 0, 0)]]
/-- WornSums$NumberWords.addName(ILjava/lang/String;I)V -/
def pc_15 : List (List (Nat × smI)) := [[(0, .iconst 0, 1, 0, 0, 0), (1, .istore 4, 2, 0, 0, 0), (3, .iconst 0, 1, 0, 0, 0), (4, .istore 5, 2, 0, 0, 0), (6, .iload 5, 2, 0, 0, 0), (8, .aload_n 2, 1, 0, 0, 0), (9, .invokevirtual 55, 3, 7, 0, 0), (12, .if_icmp .ge 43, 3, 0, 0, 0), (15, .aload_n 2, 1, 0, 0, 0)],
  [(16, .iload 5, 2, 0, 0, 0), (18, .invokevirtual 61, 3, 12, 1, 0), (21, .istore 6, 2, 0, 0, 0), (23, .iload 6, 2, 0, 0, 0), (25, .bipush 32, 2, 32, 0, 0), (27, .if_icmp .ne 9, 3, 0, 0, 0), (30, .iinc 4 1, 3, 1, 0, 0)],
  [(33, .goto 16, 3, 0, 0, 0), (36, .iload 4, 2, 0, 0, 0), (38, .iload_n 3, 1, 0, 0, 0), (39, .if_icmp .ne 10, 3, 0, 0, 0), (42, .aload_n 0, 1, 0, 0, 0), (43, .iload_n 1, 1, 0, 0, 0), (44, .iload 6, 2, 0, 0, 0), (46, .invokevirtual 43, 3, 14, 2, 4)],
  [(49, .iinc 5 1, 3, 1, 0, 0), (52, .goto (-46), 3, 0, 0, 0), (55, .return_, 1, 0, 0, 0)]]
/-- WornSums$NumberWords.lengthOf(I)I -/
def pc_16 : List (List (Nat × smI)) := [[(0, .iload_n 1, 1, 0, 0, 0), (1, .invokestatic 73, 3, 13, 1, 0), (4, .ifCond .eq 12, 3, 0, 0, 0), (7, .aload_n 0, 1, 0, 0, 0), (8, .getfield 15, 3, 3, 1, 1), (11, .iload_n 1, 1, 0, 0, 0), (12, .iaload, 1, 0, 0, 0), (13, .goto 4, 3, 0, 0, 0)],
  [(16, .iconst 0, 1, 0, 0, 0), (17, .ireturn, 1, 0, 0, 0)]]
/-- WornSums$NumberWords.at(II)I -/
def pc_17 : List (List (Nat × smI)) := [[(0, .iload_n 1, 1, 0, 0, 0), (1, .invokestatic 73, 3, 13, 1, 0), (4, .ifCond .eq 23, 3, 0, 0, 0), (7, .iload_n 2, 1, 0, 0, 0), (8, .ifCond .lt 19, 3, 0, 0, 0), (11, .iload_n 2, 1, 0, 0, 0), (12, .aload_n 0, 1, 0, 0, 0), (13, .getfield 15, 3, 3, 1, 1)],
  [(16, .iload_n 1, 1, 0, 0, 0), (17, .iaload, 1, 0, 0, 0), (18, .if_icmp .ge 9, 3, 0, 0, 0), (21, .iload_n 2, 1, 0, 0, 0), (22, .bipush 31, 2, 31, 0, 0), (24, .if_icmp .lt 6, 3, 0, 0, 0), (27, .bipush (-9), 2, 9, 1, 0), (29, .ireturn, 1, 0, 0, 0), (30, .aload_n 0, 1, 0, 0, 0), (31, .getfield 9, 3, 3, 0, 1)],
  [(34, .iload_n 1, 1, 0, 0, 0), (35, .bipush 31, 2, 31, 0, 0), (37, .imul, 1, 0, 0, 0), (38, .iload_n 2, 1, 0, 0, 0), (39, .iadd, 1, 0, 0, 0), (40, .caload, 1, 0, 0, 0), (41, .ireturn, 1, 0, 0, 0)]]
/-- WornSums$NumberWords.addNumber(II)V -/
def pc_18 : List (List (Nat × smI)) := [[(0, .aload_n 0, 1, 0, 0, 0), (1, .iload_n 2, 1, 0, 0, 0), (2, .invokevirtual 65, 3, 16, 1, 4), (5, .istore_n 3, 1, 0, 0, 0), (6, .iconst 0, 1, 0, 0, 0), (7, .istore 4, 2, 0, 0, 0), (9, .iload 4, 2, 0, 0, 0), (11, .iload_n 3, 1, 0, 0, 0), (12, .if_icmp .ge 22, 3, 0, 0, 0), (15, .aload_n 0, 1, 0, 0, 0)],
  [(16, .iload_n 1, 1, 0, 0, 0), (17, .aload_n 0, 1, 0, 0, 0), (18, .iload_n 2, 1, 0, 0, 0), (19, .iload 4, 2, 0, 0, 0), (21, .invokevirtual 69, 3, 17, 2, 4), (24, .i2c, 1, 0, 0, 0), (25, .invokevirtual 43, 3, 14, 2, 4), (28, .iinc 4 1, 3, 1, 0, 0), (31, .goto (-22), 3, 0, 0, 0)],
  [(34, .return_, 1, 0, 0, 0)]]
/-- WornSums$NumberWords.writeTens(I)V -/
def pc_19 : List (List (Nat × smI)) := [[(0, .iload_n 1, 1, 0, 0, 0), (1, .bipush 10, 2, 10, 0, 0), (3, .irem, 1, 0, 0, 0), (4, .istore_n 2, 1, 0, 0, 0), (5, .iload_n 2, 1, 0, 0, 0), (6, .ifCond .ne 17, 3, 0, 0, 0), (9, .aload_n 0, 1, 0, 0, 0), (10, .iload_n 1, 1, 0, 0, 0), (11, .ldc 37, 2, 2, 0, 1), (13, .iload_n 1, 1, 0, 0, 0), (14, .bipush 10, 2, 10, 0, 0)],
  [(16, .idiv, 1, 0, 0, 0), (17, .iconst 2, 1, 2, 0, 0), (18, .isub, 1, 0, 0, 0), (19, .invokevirtual 25, 3, 15, 3, 4), (22, .return_, 1, 0, 0, 0), (23, .aload_n 0, 1, 0, 0, 0), (24, .iload_n 1, 1, 0, 0, 0), (25, .iload_n 1, 1, 0, 0, 0), (26, .iload_n 2, 1, 0, 0, 0), (27, .isub, 1, 0, 0, 0), (28, .invokevirtual 39, 3, 18, 2, 4), (31, .aload_n 0, 1, 0, 0, 0)],
  [(32, .iload_n 1, 1, 0, 0, 0), (33, .bipush 32, 2, 32, 0, 0), (35, .invokevirtual 43, 3, 14, 2, 4), (38, .aload_n 0, 1, 0, 0, 0), (39, .iload_n 1, 1, 0, 0, 0), (40, .iload_n 2, 1, 0, 0, 0), (41, .invokevirtual 39, 3, 18, 2, 4), (44, .return_, 1, 0, 0, 0)]]
/-- WornSums$NumberWords.addAll(ILjava/lang/String;)V -/
def pc_20 : List (List (Nat × smI)) := [[(0, .iconst 0, 1, 0, 0, 0), (1, .istore_n 3, 1, 0, 0, 0), (2, .iload_n 3, 1, 0, 0, 0), (3, .aload_n 2, 1, 0, 0, 0), (4, .invokevirtual 55, 3, 7, 0, 0), (7, .if_icmp .ge 19, 3, 0, 0, 0), (10, .aload_n 0, 1, 0, 0, 0), (11, .iload_n 1, 1, 0, 0, 0), (12, .aload_n 2, 1, 0, 0, 0), (13, .iload_n 3, 1, 0, 0, 0), (14, .invokevirtual 61, 3, 12, 1, 0)],
  [(17, .invokevirtual 43, 3, 14, 2, 4), (20, .iinc 3 1, 3, 1, 0, 0), (23, .goto (-21), 3, 0, 0, 0), (26, .return_, 1, 0, 0, 0)]]
/-- WornSums$NumberWords.writeHundreds(I)V -/
def pc_21 : List (List (Nat × smI)) := [[(0, .iload_n 1, 1, 0, 0, 0), (1, .bipush 100, 2, 100, 0, 0), (3, .irem, 1, 0, 0, 0), (4, .istore_n 2, 1, 0, 0, 0), (5, .aload_n 0, 1, 0, 0, 0), (6, .iload_n 1, 1, 0, 0, 0), (7, .iload_n 1, 1, 0, 0, 0), (8, .bipush 100, 2, 100, 0, 0), (10, .idiv, 1, 0, 0, 0), (11, .invokevirtual 39, 3, 18, 2, 4), (14, .aload_n 0, 1, 0, 0, 0), (15, .iload_n 1, 1, 0, 0, 0)],
  [(16, .ldc 47, 2, 3, 0, 1), (18, .invokevirtual 49, 3, 20, 2, 4), (21, .iload_n 2, 1, 0, 0, 0), (22, .ifCond .eq 16, 3, 0, 0, 0), (25, .aload_n 0, 1, 0, 0, 0), (26, .iload_n 1, 1, 0, 0, 0), (27, .ldc 53, 2, 4, 0, 1), (29, .invokevirtual 49, 3, 20, 2, 4)],
  [(32, .aload_n 0, 1, 0, 0, 0), (33, .iload_n 1, 1, 0, 0, 0), (34, .iload_n 2, 1, 0, 0, 0), (35, .invokevirtual 39, 3, 18, 2, 4), (38, .return_, 1, 0, 0, 0)]]
/-- WornSums$NumberWords.write(I)V -/
def pc_22 : List (List (Nat × smI)) := [[(0, .iload_n 1, 1, 0, 0, 0), (1, .bipush 10, 2, 10, 0, 0), (3, .if_icmp .ge 14, 3, 0, 0, 0), (6, .aload_n 0, 1, 0, 0, 0), (7, .iload_n 1, 1, 0, 0, 0), (8, .ldc 23, 2, 0, 0, 1), (10, .iload_n 1, 1, 0, 0, 0), (11, .invokevirtual 25, 3, 15, 3, 4), (14, .goto 42, 3, 0, 0, 0)],
  [(17, .iload_n 1, 1, 0, 0, 0), (18, .bipush 20, 2, 20, 0, 0), (20, .if_icmp .ge 17, 3, 0, 0, 0), (23, .aload_n 0, 1, 0, 0, 0), (24, .iload_n 1, 1, 0, 0, 0), (25, .ldc 29, 2, 1, 0, 1), (27, .iload_n 1, 1, 0, 0, 0), (28, .bipush 10, 2, 10, 0, 0), (30, .isub, 1, 0, 0, 0), (31, .invokevirtual 25, 3, 15, 3, 4)],
  [(34, .goto 22, 3, 0, 0, 0), (37, .iload_n 1, 1, 0, 0, 0), (38, .bipush 100, 2, 100, 0, 0), (40, .if_icmp .ge 11, 3, 0, 0, 0), (43, .aload_n 0, 1, 0, 0, 0), (44, .iload_n 1, 1, 0, 0, 0), (45, .invokevirtual 31, 3, 19, 1, 4)],
  [(48, .goto 8, 3, 0, 0, 0), (51, .aload_n 0, 1, 0, 0, 0), (52, .iload_n 1, 1, 0, 0, 0), (53, .invokevirtual 34, 3, 21, 1, 4), (56, .return_, 1, 0, 0, 0)]]
/-- WornSums$NumberWords.<init>()V -/
def pc_23 : List (List (Nat × smI)) := [[(0, .aload_n 0, 1, 0, 0, 0), (1, .invokespecial 3, 3, 0, 0, 0), (4, .aload_n 0, 1, 0, 0, 0), (5, .sipush 31000, 3, 31000, 0, 0), (8, .newarray .char, 2, 0, 0, 0), (10, .putfield 9, 3, 3, 0, 1), (13, .aload_n 0, 1, 0, 0, 0), (14, .sipush 1000, 3, 1000, 0, 0)],
  [(17, .newarray .int, 2, 0, 0, 0), (19, .putfield 15, 3, 3, 1, 1), (22, .iconst 0, 1, 0, 0, 0), (23, .istore_n 1, 1, 0, 0, 0), (24, .iload_n 1, 1, 0, 0, 0), (25, .sipush 1000, 3, 1000, 0, 0), (28, .if_icmp .ge 14, 3, 0, 0, 0), (31, .aload_n 0, 1, 0, 0, 0)],
  [(32, .iload_n 1, 1, 0, 0, 0), (33, .invokevirtual 19, 3, 22, 1, 4), (36, .iinc 1 1, 3, 1, 0, 0), (39, .goto (-15), 3, 0, 0, 0), (42, .return_, 1, 0, 0, 0)]]
/-- WornSums$Agreeing.<init>()V -/
def pc_24 : List (List (Nat × smI)) := [[(0, .aload_n 0, 1, 0, 0, 0), (1, .invokespecial 3, 3, 0, 0, 0), (4, .aload_n 0, 1, 0, 0, 0), (5, .sipush 1000, 3, 1000, 0, 0), (8, .newarray .int, 2, 0, 0, 0), (10, .putfield 9, 3, 0, 0, 1), (13, .aload_n 0, 1, 0, 0, 0), (14, .sipush 1000, 3, 1000, 0, 0)],
  [(17, .newarray .int, 2, 0, 0, 0), (19, .putfield 15, 3, 0, 1, 1), (22, .aload_n 0, 1, 0, 0, 0), (23, .iconst 0, 1, 0, 0, 0), (24, .putfield 18, 3, 0, 2, 0), (27, .aload_n 0, 1, 0, 0, 0), (28, .iconst 0, 1, 0, 0, 0), (29, .putfield 22, 3, 0, 3, 0)],
  [(32, .aload_n 0, 1, 0, 0, 0), (33, .iconst 0, 1, 0, 0, 0), (34, .putfield 25, 3, 0, 4, 0), (37, .return_, 1, 0, 0, 0)]]
/-- WornSums$Findings.<init>()V -/
def pc_25 : List (List (Nat × smI)) := [[(0, .aload_n 0, 1, 0, 0, 0), (1, .invokespecial 3, 3, 0, 0, 0), (4, .aload_n 0, 1, 0, 0, 0), (5, .bipush 6, 2, 6, 0, 0), (7, .anewarray 9, 3, 0, 0, 0), (10, .putfield 11, 3, 1, 0, 1), (13, .aload_n 0, 1, 0, 0, 0), (14, .iconst 0, 1, 0, 0, 0), (15, .putfield 17, 3, 1, 1, 2)],
  [(18, .aload_n 0, 1, 0, 0, 0), (19, .bipush 7, 2, 7, 0, 0), (21, .sipush 5995, 3, 5995, 0, 0), (24, .multianewarray 21 2, 4, 0, 0, 0), (28, .putfield 23, 3, 1, 2, 1), (31, .aload_n 0, 1, 0, 0, 0)],
  [(32, .bipush 6, 2, 6, 0, 0), (34, .newarray .int, 2, 0, 0, 0), (36, .putfield 26, 3, 1, 3, 1), (39, .aload_n 0, 1, 0, 0, 0), (40, .bipush (-9), 2, 9, 1, 0), (42, .putfield 30, 3, 1, 4, 0), (45, .aload_n 0, 1, 0, 0, 0), (46, .iconst 0, 1, 0, 0, 0), (47, .putfield 34, 3, 1, 5, 2)],
  [(50, .aload_n 0, 1, 0, 0, 0), (51, .sipush 5995, 3, 5995, 0, 0), (54, .newarray .boolean, 2, 0, 0, 0), (56, .putfield 37, 3, 1, 6, 1), (59, .aload_n 0, 1, 0, 0, 0), (60, .bipush 26, 2, 26, 0, 0), (62, .newarray .int, 2, 0, 0, 0)],
  [(64, .putfield 41, 3, 1, 7, 1), (67, .iconst 0, 1, 0, 0, 0), (68, .istore_n 1, 1, 0, 0, 0), (69, .iload_n 1, 1, 0, 0, 0), (70, .aload_n 0, 1, 0, 0, 0), (71, .getfield 11, 3, 1, 0, 1), (74, .arraylength, 1, 0, 0, 0), (75, .if_icmp .ge 22, 3, 0, 0, 0), (78, .aload_n 0, 1, 0, 0, 0), (79, .getfield 11, 3, 1, 0, 1)],
  [(82, .iload_n 1, 1, 0, 0, 0), (83, .new 9, 3, 0, 0, 0), (86, .dup, 1, 0, 0, 0), (87, .invokespecial 44, 3, 24, 0, 1), (90, .aastore, 1, 0, 0, 0), (91, .iinc 1 1, 3, 1, 0, 0), (94, .goto (-25), 3, 0, 0, 0)],
  [(97, .return_, 1, 0, 0, 0)]]
/-- WornSums.<init>()V -/
def pc_26 : List (List (Nat × smI)) := [[(0, .aload_n 0, 1, 0, 0, 0), (1, .invokespecial 3, 3, 0, 0, 0), (4, .aload_n 0, 1, 0, 0, 0), (5, .new 9, 3, 6, 0, 0), (8, .dup, 1, 0, 0, 0), (9, .invokespecial 11, 3, 0, 0, 1), (12, .putfield 12, 3, 7, 0, 1), (15, .aload_n 0, 1, 0, 0, 0)],
  [(16, .new 16, 3, 5, 0, 0), (19, .dup, 1, 0, 0, 0), (20, .invokespecial 18, 3, 3, 0, 1), (23, .putfield 19, 3, 7, 1, 1), (26, .aload_n 0, 1, 0, 0, 0), (27, .new 23, 3, 2, 0, 0), (30, .dup, 1, 0, 0, 0), (31, .invokespecial 25, 3, 5, 0, 1)],
  [(34, .putfield 26, 3, 7, 2, 1), (37, .aload_n 0, 1, 0, 0, 0), (38, .iconst 2, 1, 2, 0, 0), (39, .invokestatic 30, 3, 4, 1, 0), (42, .putfield 34, 3, 7, 3, 1), (45, .aload_n 0, 1, 0, 0, 0), (46, .iconst 2, 1, 2, 0, 0), (47, .newarray .boolean, 2, 0, 0, 0)],
  [(49, .putfield 38, 3, 7, 4, 1), (52, .aload_n 0, 1, 0, 0, 0), (53, .new 42, 3, 3, 0, 0), (56, .dup, 1, 0, 0, 0), (57, .invokespecial 44, 3, 23, 0, 1), (60, .putfield 45, 3, 7, 5, 1), (63, .aload_n 0, 1, 0, 0, 0)],
  [(64, .new 49, 3, 1, 0, 0), (67, .dup, 1, 0, 0, 0), (68, .invokespecial 51, 3, 25, 0, 1), (71, .putfield 52, 3, 7, 6, 1), (74, .return_, 1, 0, 0, 0)]]
/-- WornSums$Text.add(C)Z -/
def pc_27 : List (List (Nat × smI)) := [[(0, .aload_n 0, 1, 0, 0, 0), (1, .getfield 15, 3, 6, 1, 0), (4, .aload_n 0, 1, 0, 0, 0), (5, .getfield 9, 3, 6, 0, 1), (8, .arraylength, 1, 0, 0, 0), (9, .if_icmp .lt 5, 3, 0, 0, 0), (12, .iconst 0, 1, 0, 0, 0), (13, .ireturn, 1, 0, 0, 1), (14, .aload_n 0, 1, 0, 0, 0), (15, .getfield 9, 3, 6, 0, 1)],
  [(18, .aload_n 0, 1, 0, 0, 0), (19, .getfield 15, 3, 6, 1, 0), (22, .iload_n 1, 1, 0, 0, 0), (23, .castore, 1, 0, 0, 0), (24, .aload_n 0, 1, 0, 0, 0), (25, .dup, 1, 0, 0, 0), (26, .getfield 15, 3, 6, 1, 0), (29, .iconst 1, 1, 1, 0, 0), (30, .iadd, 1, 0, 0, 0), (31, .putfield 15, 3, 6, 1, 0)],
  [(34, .iconst 1, 1, 1, 0, 0), (35, .ireturn, 1, 0, 0, 1)]]
/-- WornSums.type(I)I -/
def pc_28 : List (List (Nat × smI)) := [[(0, .iload_n 1, 1, 0, 0, 0), (1, .ifCond .lt 10, 3, 0, 0, 0), (4, .iload_n 1, 1, 0, 0, 0), (5, .sipush 255, 3, 255, 0, 0), (8, .if_icmp .le 5, 3, 0, 0, 0), (11, .iconst (-1), 1, 1, 1, 0), (12, .ireturn, 1, 0, 0, 0), (13, .aload_n 0, 1, 0, 0, 0), (14, .getfield 12, 3, 7, 0, 1)],
  [(17, .iload_n 1, 1, 0, 0, 0), (18, .i2c, 1, 0, 0, 0), (19, .invokevirtual 56, 3, 27, 1, 7), (22, .ifCond .eq 13, 3, 0, 0, 0), (25, .aload_n 0, 1, 0, 0, 0), (26, .getfield 12, 3, 7, 0, 1), (29, .getfield 60, 3, 6, 1, 0)],
  [(32, .goto 5, 3, 0, 0, 0), (35, .bipush (-3), 2, 3, 1, 0), (37, .ireturn, 1, 0, 0, 0)]]
/-- WornSums.clear()I -/
def pc_29 : List (List (Nat × smI)) := [[(0, .aload_n 0, 1, 0, 0, 0), (1, .getfield 12, 3, 7, 0, 1), (4, .getfield 60, 3, 6, 1, 0), (7, .istore_n 1, 1, 0, 0, 0), (8, .aload_n 0, 1, 0, 0, 0), (9, .getfield 12, 3, 7, 0, 1), (12, .iconst 0, 1, 0, 0, 0), (13, .putfield 60, 3, 6, 1, 0)],
  [(16, .iload_n 1, 1, 0, 0, 0), (17, .ireturn, 1, 0, 0, 0)]]
/-- WornSums$Text.at(I)C -/
def pc_30 : List (List (Nat × smI)) := [[(0, .iload_n 1, 1, 0, 0, 0), (1, .ifCond .lt 29, 3, 0, 0, 0), (4, .iload_n 1, 1, 0, 0, 0), (5, .aload_n 0, 1, 0, 0, 0), (6, .getfield 15, 3, 6, 1, 0), (9, .if_icmp .ge 21, 3, 0, 0, 0), (12, .iload_n 1, 1, 0, 0, 0), (13, .aload_n 0, 1, 0, 0, 0), (14, .getfield 9, 3, 6, 0, 1)],
  [(17, .arraylength, 1, 0, 0, 0), (18, .if_icmp .ge 12, 3, 0, 0, 0), (21, .aload_n 0, 1, 0, 0, 0), (22, .getfield 9, 3, 6, 0, 1), (25, .iload_n 1, 1, 0, 0, 0), (26, .caload, 1, 0, 0, 0), (27, .goto 4, 3, 0, 0, 0), (30, .iconst 0, 1, 0, 0, 0), (31, .ireturn, 1, 0, 0, 2)]]
/-- WornSums.isLetter(I)Z -/
def pc_31 : List (List (Nat × smI)) := [[(0, .iload_n 0, 1, 0, 0, 0), (1, .bipush 97, 2, 97, 0, 0), (3, .if_icmp .lt 13, 3, 0, 0, 0), (6, .iload_n 0, 1, 0, 0, 0), (7, .bipush 122, 2, 122, 0, 0), (9, .if_icmp .gt 7, 3, 0, 0, 0), (12, .iconst 1, 1, 1, 0, 0), (13, .goto 4, 3, 0, 0, 0)],
  [(16, .iconst 0, 1, 0, 0, 0), (17, .ireturn, 1, 0, 0, 1)]]
/-- WornSums$Text.standsInWords(I)Z -/
def pc_32 : List (List (Nat × smI)) := [[(0, .aload_n 0, 1, 0, 0, 0), (1, .iload_n 1, 1, 0, 0, 0), (2, .invokevirtual 23, 3, 30, 1, 7), (5, .istore_n 2, 1, 0, 0, 0), (6, .iload_n 2, 1, 0, 0, 0), (7, .bipush 61, 2, 61, 0, 0), (9, .if_icmp .ne 13, 3, 0, 0, 0), (12, .iload_n 1, 1, 0, 0, 0), (13, .ifCond .le 7, 3, 0, 0, 0)],
  [(16, .iconst 1, 1, 1, 0, 0), (17, .goto 4, 3, 0, 0, 0), (20, .iconst 0, 1, 0, 0, 0), (21, .ireturn, 1, 0, 0, 1), (22, .iload_n 1, 1, 0, 0, 0), (23, .bipush 31, 2, 31, 0, 0), (25, .if_icmp .lt 5, 3, 0, 0, 0), (28, .iconst 0, 1, 0, 0, 0), (29, .ireturn, 1, 0, 0, 1), (30, .iload_n 2, 1, 0, 0, 0), (31, .bipush 32, 2, 32, 0, 0)],
  [(33, .if_icmp .ne 37, 3, 0, 0, 0), (36, .iload_n 1, 1, 0, 0, 0), (37, .ifCond .le 31, 3, 0, 0, 0), (40, .aload_n 0, 1, 0, 0, 0), (41, .iload_n 1, 1, 0, 0, 0), (42, .iconst 1, 1, 1, 0, 0), (43, .isub, 1, 0, 0, 0), (44, .invokevirtual 23, 3, 30, 1, 7), (47, .bipush 32, 2, 32, 0, 0)],
  [(49, .if_icmp .eq 19, 3, 0, 0, 0), (52, .aload_n 0, 1, 0, 0, 0), (53, .iload_n 1, 1, 0, 0, 0), (54, .iconst 1, 1, 1, 0, 0), (55, .iadd, 1, 0, 0, 0), (56, .invokevirtual 23, 3, 30, 1, 7), (59, .bipush 61, 2, 61, 0, 0), (61, .if_icmp .eq 7, 3, 0, 0, 0)],
  [(64, .iconst 1, 1, 1, 0, 0), (65, .goto 4, 3, 0, 0, 0), (68, .iconst 0, 1, 0, 0, 0), (69, .ireturn, 1, 0, 0, 1), (70, .iload_n 2, 1, 0, 0, 0), (71, .bipush 63, 2, 63, 0, 0), (73, .if_icmp .eq 10, 3, 0, 0, 0), (76, .iload_n 2, 1, 0, 0, 0), (77, .invokestatic 31, 3, 31, 1, 0)],
  [(80, .ifCond .eq 7, 3, 0, 0, 0), (83, .iconst 1, 1, 1, 0, 0), (84, .goto 4, 3, 0, 0, 0), (87, .iconst 0, 1, 0, 0, 0), (88, .ireturn, 1, 0, 0, 1)]]
/-- WornSums.isFigureSign(I)Z -/
def pc_33 : List (List (Nat × smI)) := [[(0, .iload_n 0, 1, 0, 0, 0), (1, .bipush 48, 2, 48, 0, 0), (3, .if_icmp .lt 13, 3, 0, 0, 0), (6, .iload_n 0, 1, 0, 0, 0), (7, .bipush 57, 2, 57, 0, 0), (9, .if_icmp .gt 7, 3, 0, 0, 0), (12, .iconst 1, 1, 1, 0, 0), (13, .goto 4, 3, 0, 0, 0)],
  [(16, .iconst 0, 1, 0, 0, 0), (17, .ireturn, 1, 0, 0, 1)]]
/-- WornSums$Text.standsInFigures(IC)Z -/
def pc_34 : List (List (Nat × smI)) := [[(0, .iload_n 0, 1, 0, 0, 0), (1, .iconst 3, 1, 3, 0, 0), (2, .if_icmp .gt 20, 3, 0, 0, 0), (5, .iload_n 1, 1, 0, 0, 0), (6, .bipush 63, 2, 63, 0, 0), (8, .if_icmp .eq 10, 3, 0, 0, 0), (11, .iload_n 1, 1, 0, 0, 0), (12, .invokestatic 34, 3, 33, 1, 0), (15, .ifCond .eq 7, 3, 0, 0, 0)],
  [(18, .iconst 1, 1, 1, 0, 0), (19, .goto 4, 3, 0, 0, 0), (22, .iconst 0, 1, 0, 0, 0), (23, .ireturn, 1, 0, 0, 1)]]
/-- WornSums$Text.fault()I -/
def pc_35 : List (List (Nat × smI)) := [[(0, .bipush (-9), 2, 9, 1, 0), (2, .istore_n 1, 1, 0, 0, 0), (3, .iconst 0, 1, 0, 0, 0), (4, .istore_n 2, 1, 0, 0, 0), (5, .iload_n 2, 1, 0, 0, 0), (6, .aload_n 0, 1, 0, 0, 0), (7, .getfield 15, 3, 6, 1, 0), (10, .if_icmp .ge 53, 3, 0, 0, 0), (13, .iload_n 1, 1, 0, 0, 0), (14, .bipush (-9), 2, 9, 1, 0)],
  [(16, .if_icmp .ne 11, 3, 0, 0, 0), (19, .aload_n 0, 1, 0, 0, 0), (20, .iload_n 2, 1, 0, 0, 0), (21, .invokevirtual 19, 3, 32, 1, 7), (24, .goto 14, 3, 0, 0, 0), (27, .iload_n 2, 1, 0, 0, 0), (28, .iload_n 1, 1, 0, 0, 0), (29, .isub, 1, 0, 0, 0), (30, .aload_n 0, 1, 0, 0, 0), (31, .iload_n 2, 1, 0, 0, 0)],
  [(32, .invokevirtual 23, 3, 30, 1, 7), (35, .invokestatic 27, 3, 34, 2, 0), (38, .istore_n 3, 1, 0, 0, 0), (39, .iload_n 3, 1, 0, 0, 0), (40, .ifCond .ne 5, 3, 0, 0, 0), (43, .iload_n 2, 1, 0, 0, 0), (44, .ireturn, 1, 0, 0, 0), (45, .aload_n 0, 1, 0, 0, 0), (46, .iload_n 2, 1, 0, 0, 0), (47, .invokevirtual 23, 3, 30, 1, 7)],
  [(50, .bipush 61, 2, 61, 0, 0), (52, .if_icmp .ne 5, 3, 0, 0, 0), (55, .iload_n 2, 1, 0, 0, 0), (56, .istore_n 1, 1, 0, 0, 0), (57, .iinc 2 1, 3, 1, 0, 0), (60, .goto (-55), 3, 0, 0, 0), (63, .iload_n 1, 1, 0, 0, 0)],
  [(64, .bipush (-9), 2, 9, 1, 0), (66, .if_icmp .eq 13, 3, 0, 0, 0), (69, .iload_n 1, 1, 0, 0, 0), (70, .aload_n 0, 1, 0, 0, 0), (71, .getfield 15, 3, 6, 1, 0), (74, .iconst 1, 1, 1, 0, 0), (75, .isub, 1, 0, 0, 0), (76, .if_icmp .ne 7, 3, 0, 0, 0), (79, .iconst 1, 1, 1, 0, 0)],
  [(80, .goto 4, 3, 0, 0, 0), (83, .iconst 0, 1, 0, 0, 0), (84, .istore_n 2, 1, 0, 0, 0), (85, .iload_n 2, 1, 0, 0, 0), (86, .ifCond .eq 10, 3, 0, 0, 0), (89, .aload_n 0, 1, 0, 0, 0), (90, .getfield 15, 3, 6, 1, 0), (93, .goto 5, 3, 0, 0, 0)],
  [(96, .bipush (-9), 2, 9, 1, 0), (98, .ireturn, 1, 0, 0, 0)]]
/-- WornSums$Row.hasPlace(I)Z -/
def pc_36 : List (List (Nat × smI)) := [[(0, .iload_n 1, 1, 0, 0, 0), (1, .ifCond .lt 24, 3, 0, 0, 0), (4, .iload_n 1, 1, 0, 0, 0), (5, .aload_n 0, 1, 0, 0, 0), (6, .getfield 9, 3, 4, 1, 0), (9, .if_icmp .ge 16, 3, 0, 0, 0), (12, .iload_n 1, 1, 0, 0, 0), (13, .aload_n 0, 1, 0, 0, 0), (14, .getfield 21, 3, 4, 0, 1)],
  [(17, .arraylength, 1, 0, 0, 0), (18, .if_icmp .ge 7, 3, 0, 0, 0), (21, .iconst 1, 1, 1, 0, 0), (22, .goto 4, 3, 0, 0, 0), (25, .iconst 0, 1, 0, 0, 0), (26, .ireturn, 1, 0, 0, 1)]]
/-- WornSums$Row.at(I)C -/
def pc_37 : List (List (Nat × smI)) := [[(0, .aload_n 0, 1, 0, 0, 0), (1, .iload_n 1, 1, 0, 0, 0), (2, .invokevirtual 25, 3, 36, 1, 5), (5, .ifCond .eq 12, 3, 0, 0, 0), (8, .aload_n 0, 1, 0, 0, 0), (9, .getfield 21, 3, 4, 0, 1), (12, .iload_n 1, 1, 0, 0, 0), (13, .caload, 1, 0, 0, 0), (14, .goto 4, 3, 0, 0, 0)],
  [(17, .iconst 0, 1, 0, 0, 0), (18, .ireturn, 1, 0, 0, 2)]]
/-- WornSums$Row.put(IC)V -/
def pc_38 : List (List (Nat × smI)) := [[(0, .aload_n 0, 1, 0, 0, 0), (1, .iload_n 1, 1, 0, 0, 0), (2, .invokevirtual 25, 3, 36, 1, 5), (5, .ifCond .eq 10, 3, 0, 0, 0), (8, .aload_n 0, 1, 0, 0, 0), (9, .getfield 21, 3, 4, 0, 1), (12, .iload_n 1, 1, 0, 0, 0), (13, .iload_n 2, 1, 0, 0, 0), (14, .castore, 1, 0, 0, 0), (15, .return_, 1, 0, 0, 0)]]
/-- WornSums$Row.copyFrom(LWornSums$Row;)V -/
def pc_39 : List (List (Nat × smI)) := [[(0, .aload_n 0, 1, 0, 0, 0), (1, .aload_n 1, 1, 0, 0, 0), (2, .getfield 9, 3, 4, 1, 0), (5, .aload_n 0, 1, 0, 0, 0), (6, .getfield 21, 3, 4, 0, 1), (9, .arraylength, 1, 0, 0, 0), (10, .invokestatic 29, 3, 0, 0, 2), (13, .putfield 9, 3, 4, 1, 0)],
  [(16, .iconst 0, 1, 0, 0, 0), (17, .istore_n 2, 1, 0, 0, 0), (18, .iload_n 2, 1, 0, 0, 0), (19, .aload_n 0, 1, 0, 0, 0), (20, .getfield 9, 3, 4, 1, 0), (23, .if_icmp .ge 19, 3, 0, 0, 0), (26, .aload_n 0, 1, 0, 0, 0), (27, .iload_n 2, 1, 0, 0, 0), (28, .aload_n 1, 1, 0, 0, 0), (29, .iload_n 2, 1, 0, 0, 0), (30, .invokevirtual 42, 3, 37, 1, 5)],
  [(33, .invokevirtual 38, 3, 38, 2, 5), (36, .iinc 2 1, 3, 1, 0, 0), (39, .goto (-21), 3, 0, 0, 0), (42, .return_, 1, 0, 0, 0)]]
/-- WornSums$Sheet.copyFrom(LWornSums$Sheet;)V -/
def pc_40 : List (List (Nat × smI)) := [[(0, .aload_n 0, 1, 0, 0, 0), (1, .aload_n 1, 1, 0, 0, 0), (2, .getfield 22, 3, 5, 2, 0), (5, .bipush 6, 2, 6, 0, 0), (7, .invokestatic 70, 3, 0, 0, 2), (10, .putfield 22, 3, 5, 2, 0), (13, .aload_n 0, 1, 0, 0, 0), (14, .aload_n 1, 1, 0, 0, 0), (15, .getfield 26, 3, 5, 3, 0)],
  [(18, .putfield 26, 3, 5, 3, 0), (21, .aload_n 0, 1, 0, 0, 0), (22, .aload_n 1, 1, 0, 0, 0), (23, .getfield 29, 3, 5, 4, 0), (26, .putfield 29, 3, 5, 4, 0), (29, .iconst 0, 1, 0, 0, 0), (30, .istore_n 2, 1, 0, 0, 0), (31, .iload_n 2, 1, 0, 0, 0)],
  [(32, .aload_n 0, 1, 0, 0, 0), (33, .getfield 22, 3, 5, 2, 0), (36, .if_icmp .ge 39, 3, 0, 0, 0), (39, .aload_n 0, 1, 0, 0, 0), (40, .getfield 15, 3, 5, 0, 1), (43, .iload_n 2, 1, 0, 0, 0), (44, .aaload, 1, 0, 0, 0), (45, .aload_n 1, 1, 0, 0, 0), (46, .getfield 15, 3, 5, 0, 1)],
  [(49, .iload_n 2, 1, 0, 0, 0), (50, .aaload, 1, 0, 0, 0), (51, .invokevirtual 66, 3, 39, 1, 5), (54, .aload_n 0, 1, 0, 0, 0), (55, .getfield 19, 3, 5, 1, 1), (58, .iload_n 2, 1, 0, 0, 0), (59, .aaload, 1, 0, 0, 0), (60, .aload_n 1, 1, 0, 0, 0), (61, .getfield 19, 3, 5, 1, 1)],
  [(64, .iload_n 2, 1, 0, 0, 0), (65, .aaload, 1, 0, 0, 0), (66, .invokevirtual 66, 3, 39, 1, 5), (69, .iinc 2 1, 3, 1, 0, 0), (72, .goto (-41), 3, 0, 0, 0), (75, .return_, 1, 0, 0, 0)]]
/-- WornSums$History.remember(LWornSums$Sheet;)V -/
def pc_41 : List (List (Nat × smI)) := [[(0, .aload_n 0, 1, 0, 0, 0), (1, .getfield 13, 3, 2, 0, 1), (4, .aload_n 0, 1, 0, 0, 0), (5, .getfield 19, 3, 2, 1, 0), (8, .invokestatic 26, 3, 92, 1, 0), (11, .aaload, 1, 0, 0, 0), (12, .aload_n 1, 1, 0, 0, 0), (13, .invokevirtual 30, 3, 40, 1, 6)],
  [(16, .aload_n 0, 1, 0, 0, 0), (17, .aload_n 0, 1, 0, 0, 0), (18, .getfield 19, 3, 2, 1, 0), (21, .iconst 1, 1, 1, 0, 0), (22, .iadd, 1, 0, 0, 0), (23, .invokestatic 26, 3, 92, 1, 0), (26, .putfield 19, 3, 2, 1, 0), (29, .aload_n 0, 1, 0, 0, 0), (30, .aload_n 0, 1, 0, 0, 0), (31, .getfield 23, 3, 2, 2, 0)],
  [(34, .iconst 1, 1, 1, 0, 0), (35, .iadd, 1, 0, 0, 0), (36, .bipush 8, 2, 8, 0, 0), (38, .invokestatic 36, 3, 0, 0, 2), (41, .putfield 23, 3, 2, 2, 0), (44, .return_, 1, 0, 0, 0)]]
/-- WornSums$Findings.forget()V -/
def pc_42 : List (List (Nat × smI)) := [[(0, .aload_n 0, 1, 0, 0, 0), (1, .iconst 0, 1, 0, 0, 0), (2, .putfield 17, 3, 1, 1, 2), (5, .aload_n 0, 1, 0, 0, 0), (6, .iconst 0, 1, 0, 0, 0), (7, .putfield 34, 3, 1, 5, 2), (10, .return_, 1, 0, 0, 0)]]
/-- WornSums.startChange()V -/
def pc_43 : List (List (Nat × smI)) := [[(0, .aload_n 0, 1, 0, 0, 0), (1, .getfield 26, 3, 7, 2, 1), (4, .aload_n 0, 1, 0, 0, 0), (5, .getfield 19, 3, 7, 1, 1), (8, .invokevirtual 197, 3, 41, 1, 3), (11, .aload_n 0, 1, 0, 0, 0), (12, .getfield 52, 3, 7, 6, 1), (15, .invokevirtual 122, 3, 42, 0, 2)],
  [(18, .return_, 1, 0, 0, 0)]]
/-- WornSums$Text.equalsPlace()I -/
def pc_44 : List (List (Nat × smI)) := [[(0, .iconst 0, 1, 0, 0, 0), (1, .istore_n 1, 1, 0, 0, 0), (2, .iload_n 1, 1, 0, 0, 0), (3, .aload_n 0, 1, 0, 0, 0), (4, .getfield 15, 3, 6, 1, 0), (7, .if_icmp .ge 21, 3, 0, 0, 0), (10, .aload_n 0, 1, 0, 0, 0), (11, .iload_n 1, 1, 0, 0, 0), (12, .invokevirtual 23, 3, 30, 1, 7), (15, .bipush 61, 2, 61, 0, 0)],
  [(17, .if_icmp .ne 5, 3, 0, 0, 0), (20, .iload_n 1, 1, 0, 0, 0), (21, .ireturn, 1, 0, 0, 0), (22, .iinc 1 1, 3, 1, 0, 0), (25, .goto (-23), 3, 0, 0, 0), (28, .aload_n 0, 1, 0, 0, 0), (29, .getfield 15, 3, 6, 1, 0)],
  [(32, .ireturn, 1, 0, 0, 0)]]
/-- WornSums$Row.takeFrom(LWornSums$Text;II)V -/
def pc_45 : List (List (Nat × smI)) := [[(0, .aload_n 0, 1, 0, 0, 0), (1, .iconst 0, 1, 0, 0, 0), (2, .iload_n 3, 1, 0, 0, 0), (3, .iload_n 2, 1, 0, 0, 0), (4, .isub, 1, 0, 0, 0), (5, .aload_n 0, 1, 0, 0, 0), (6, .getfield 21, 3, 4, 0, 1), (9, .arraylength, 1, 0, 0, 0), (10, .invokestatic 29, 3, 0, 0, 2), (13, .invokestatic 15, 3, 0, 0, 1)],
  [(16, .putfield 9, 3, 4, 1, 0), (19, .iconst 0, 1, 0, 0, 0), (20, .istore 4, 2, 0, 0, 0), (22, .iload 4, 2, 0, 0, 0), (24, .aload_n 0, 1, 0, 0, 0), (25, .getfield 9, 3, 4, 1, 0), (28, .if_icmp .ge 23, 3, 0, 0, 0), (31, .aload_n 0, 1, 0, 0, 0)],
  [(32, .iload 4, 2, 0, 0, 0), (34, .aload_n 1, 1, 0, 0, 0), (35, .iload_n 2, 1, 0, 0, 0), (36, .iload 4, 2, 0, 0, 0), (38, .iadd, 1, 0, 0, 0), (39, .invokevirtual 32, 3, 30, 1, 7), (42, .invokevirtual 38, 3, 38, 2, 5), (45, .iinc 4 1, 3, 1, 0, 0)],
  [(48, .goto (-26), 3, 0, 0, 0), (51, .return_, 1, 0, 0, 0)]]
/-- WornSums$Sheet.addEntry(LWornSums$Text;)V -/
def pc_46 : List (List (Nat × smI)) := [[(0, .aload_n 0, 1, 0, 0, 0), (1, .getfield 22, 3, 5, 2, 0), (4, .bipush 6, 2, 6, 0, 0), (6, .if_icmp .lt 4, 3, 0, 0, 0), (9, .return_, 1, 0, 0, 0), (10, .aload_n 1, 1, 0, 0, 0), (11, .invokevirtual 56, 3, 44, 0, 7), (14, .istore_n 2, 1, 0, 0, 0), (15, .aload_n 0, 1, 0, 0, 0)],
  [(16, .getfield 15, 3, 5, 0, 1), (19, .aload_n 0, 1, 0, 0, 0), (20, .getfield 22, 3, 5, 2, 0), (23, .aaload, 1, 0, 0, 0), (24, .aload_n 1, 1, 0, 0, 0), (25, .iconst 0, 1, 0, 0, 0), (26, .iload_n 2, 1, 0, 0, 0), (27, .invokevirtual 61, 3, 45, 3, 5), (30, .aload_n 0, 1, 0, 0, 0), (31, .getfield 19, 3, 5, 1, 1)],
  [(34, .aload_n 0, 1, 0, 0, 0), (35, .getfield 22, 3, 5, 2, 0), (38, .aaload, 1, 0, 0, 0), (39, .aload_n 1, 1, 0, 0, 0), (40, .iload_n 2, 1, 0, 0, 0), (41, .iconst 1, 1, 1, 0, 0), (42, .iadd, 1, 0, 0, 0), (43, .aload_n 1, 1, 0, 0, 0), (44, .getfield 65, 3, 6, 1, 0), (47, .invokevirtual 61, 3, 45, 3, 5)],
  [(50, .aload_n 0, 1, 0, 0, 0), (51, .dup, 1, 0, 0, 0), (52, .getfield 22, 3, 5, 2, 0), (55, .iconst 1, 1, 1, 0, 0), (56, .iadd, 1, 0, 0, 0), (57, .putfield 22, 3, 5, 2, 0), (60, .return_, 1, 0, 0, 0)]]
/-- WornSums.tells()I -/
def pc_47 : List (List (Nat × smI)) := [[(0, .aload_n 0, 1, 0, 0, 0), (1, .getfield 19, 3, 7, 1, 1), (4, .getfield 64, 3, 5, 2, 0), (7, .bipush 6, 2, 6, 0, 0), (9, .if_icmp .lt 6, 3, 0, 0, 0), (12, .bipush (-3), 2, 3, 1, 0), (14, .ireturn, 1, 0, 0, 0), (15, .aload_n 0, 1, 0, 0, 0)],
  [(16, .getfield 12, 3, 7, 0, 1), (19, .invokevirtual 67, 3, 35, 0, 7), (22, .istore_n 1, 1, 0, 0, 0), (23, .iload_n 1, 1, 0, 0, 0), (24, .bipush (-9), 2, 9, 1, 0), (26, .if_icmp .eq 8, 3, 0, 0, 0), (29, .bipush (-10), 2, 10, 1, 0), (31, .iload_n 1, 1, 0, 0, 0)],
  [(32, .isub, 1, 0, 0, 0), (33, .ireturn, 1, 0, 0, 0), (34, .aload_n 0, 1, 0, 0, 0), (35, .invokevirtual 71, 3, 43, 0, 8), (38, .aload_n 0, 1, 0, 0, 0), (39, .getfield 19, 3, 7, 1, 1), (42, .aload_n 0, 1, 0, 0, 0), (43, .getfield 12, 3, 7, 0, 1), (46, .invokevirtual 74, 3, 46, 1, 6)],
  [(49, .aload_n 0, 1, 0, 0, 0), (50, .getfield 12, 3, 7, 0, 1), (53, .iconst 0, 1, 0, 0, 0), (54, .putfield 60, 3, 6, 1, 0), (57, .aload_n 0, 1, 0, 0, 0), (58, .getfield 19, 3, 7, 1, 1), (61, .getfield 64, 3, 5, 2, 0)],
  [(64, .iconst 1, 1, 1, 0, 0), (65, .isub, 1, 0, 0, 0), (66, .ireturn, 1, 0, 0, 0)]]
/-- WornSums$Sheet.hasEntry(I)Z -/
def pc_48 : List (List (Nat × smI)) := [[(0, .iload_n 1, 1, 0, 0, 0), (1, .ifCond .lt 21, 3, 0, 0, 0), (4, .iload_n 1, 1, 0, 0, 0), (5, .aload_n 0, 1, 0, 0, 0), (6, .getfield 22, 3, 5, 2, 0), (9, .if_icmp .ge 13, 3, 0, 0, 0), (12, .iload_n 1, 1, 0, 0, 0), (13, .bipush 6, 2, 6, 0, 0), (15, .if_icmp .ge 7, 3, 0, 0, 0)],
  [(18, .iconst 1, 1, 1, 0, 0), (19, .goto 4, 3, 0, 0, 0), (22, .iconst 0, 1, 0, 0, 0), (23, .ireturn, 1, 0, 0, 1)]]
/-- WornSums$Sheet.removeEntry(I)V -/
def pc_49 : List (List (Nat × smI)) := [[(0, .aload_n 0, 1, 0, 0, 0), (1, .iload_n 1, 1, 0, 0, 0), (2, .invokevirtual 37, 3, 48, 1, 6), (5, .ifCond .ne 4, 3, 0, 0, 0), (8, .return_, 1, 0, 0, 0), (9, .iload_n 1, 1, 0, 0, 0), (10, .istore_n 2, 1, 0, 0, 0), (11, .iload_n 2, 1, 0, 0, 0), (12, .aload_n 0, 1, 0, 0, 0), (13, .getfield 22, 3, 5, 2, 0)],
  [(16, .iconst 1, 1, 1, 0, 0), (17, .isub, 1, 0, 0, 0), (18, .if_icmp .ge 48, 3, 0, 0, 0), (21, .iload_n 2, 1, 0, 0, 0), (22, .iconst 5, 1, 5, 0, 0), (23, .if_icmp .ge 43, 3, 0, 0, 0), (26, .aload_n 0, 1, 0, 0, 0), (27, .getfield 15, 3, 5, 0, 1), (30, .iload_n 2, 1, 0, 0, 0), (31, .aaload, 1, 0, 0, 0)],
  [(32, .aload_n 0, 1, 0, 0, 0), (33, .getfield 15, 3, 5, 0, 1), (36, .iload_n 2, 1, 0, 0, 0), (37, .iconst 1, 1, 1, 0, 0), (38, .iadd, 1, 0, 0, 0), (39, .aaload, 1, 0, 0, 0), (40, .invokevirtual 66, 3, 39, 1, 5), (43, .aload_n 0, 1, 0, 0, 0), (44, .getfield 19, 3, 5, 1, 1), (47, .iload_n 2, 1, 0, 0, 0)],
  [(48, .aaload, 1, 0, 0, 0), (49, .aload_n 0, 1, 0, 0, 0), (50, .getfield 19, 3, 5, 1, 1), (53, .iload_n 2, 1, 0, 0, 0), (54, .iconst 1, 1, 1, 0, 0), (55, .iadd, 1, 0, 0, 0), (56, .aaload, 1, 0, 0, 0), (57, .invokevirtual 66, 3, 39, 1, 5), (60, .iinc 2 1, 3, 1, 0, 0), (63, .goto (-52), 3, 0, 0, 0)],
  [(66, .aload_n 0, 1, 0, 0, 0), (67, .dup, 1, 0, 0, 0), (68, .getfield 22, 3, 5, 2, 0), (71, .iconst 1, 1, 1, 0, 0), (72, .isub, 1, 0, 0, 0), (73, .putfield 22, 3, 5, 2, 0), (76, .return_, 1, 0, 0, 0)]]
/-- WornSums.drops(I)I -/
def pc_50 : List (List (Nat × smI)) := [[(0, .aload_n 0, 1, 0, 0, 0), (1, .getfield 19, 3, 7, 1, 1), (4, .iload_n 1, 1, 0, 0, 0), (5, .invokevirtual 78, 3, 48, 1, 6), (8, .ifCond .ne 5, 3, 0, 0, 0), (11, .iconst (-1), 1, 1, 1, 0), (12, .ireturn, 1, 0, 0, 0), (13, .aload_n 0, 1, 0, 0, 0), (14, .invokevirtual 71, 3, 43, 0, 8)],
  [(17, .aload_n 0, 1, 0, 0, 0), (18, .getfield 19, 3, 7, 1, 1), (21, .iload_n 1, 1, 0, 0, 0), (22, .invokevirtual 82, 3, 49, 1, 6), (25, .aload_n 0, 1, 0, 0, 0), (26, .getfield 19, 3, 7, 1, 1), (29, .getfield 64, 3, 5, 2, 0)],
  [(32, .ireturn, 1, 0, 0, 0)]]
/-- WornSums$Sheet.rowOf(II)LWornSums$Row; -/
def pc_51 : List (List (Nat × smI)) := [[(0, .aload_n 0, 1, 0, 0, 0), (1, .iload_n 1, 1, 0, 0, 0), (2, .invokevirtual 37, 3, 48, 1, 6), (5, .ifCond .eq 12, 3, 0, 0, 0), (8, .iload_n 2, 1, 0, 0, 0), (9, .ifCond .lt 8, 3, 0, 0, 0), (12, .iload_n 2, 1, 0, 0, 0), (13, .iconst 1, 1, 1, 0, 0), (14, .if_icmp .le 5, 3, 0, 0, 0)],
  [(17, .aconst_null, 1, 0, 0, 0), (18, .areturn, 1, 0, 0, 0), (19, .iload_n 2, 1, 0, 0, 0), (20, .ifCond .ne 12, 3, 0, 0, 0), (23, .aload_n 0, 1, 0, 0, 0), (24, .getfield 15, 3, 5, 0, 1), (27, .iload_n 1, 1, 0, 0, 0), (28, .aaload, 1, 0, 0, 0), (29, .goto 9, 3, 0, 0, 0)],
  [(32, .aload_n 0, 1, 0, 0, 0), (33, .getfield 19, 3, 5, 1, 1), (36, .iload_n 1, 1, 0, 0, 0), (37, .aaload, 1, 0, 0, 0), (38, .areturn, 1, 0, 0, 0)]]
/-- WornSums.wears(III)I -/
def pc_52 : List (List (Nat × smI)) := [[(0, .aload_n 0, 1, 0, 0, 0), (1, .getfield 19, 3, 7, 1, 1), (4, .iload_n 1, 1, 0, 0, 0), (5, .iload_n 2, 1, 0, 0, 0), (6, .invokevirtual 86, 3, 51, 2, 6), (9, .astore 4, 2, 0, 0, 0), (11, .aload 4, 2, 0, 0, 0), (13, .ifnull 12, 3, 0, 0, 0)],
  [(16, .aload 4, 2, 0, 0, 0), (18, .iload_n 3, 1, 0, 0, 0), (19, .invokevirtual 90, 3, 36, 1, 5), (22, .ifCond .ne 5, 3, 0, 0, 0), (25, .iconst (-1), 1, 1, 1, 0), (26, .ireturn, 1, 0, 0, 0), (27, .aload 4, 2, 0, 0, 0), (29, .iload_n 3, 1, 0, 0, 0), (30, .invokevirtual 95, 3, 37, 1, 5)],
  [(33, .istore 5, 2, 0, 0, 0), (35, .iload 5, 2, 0, 0, 0), (37, .bipush 63, 2, 63, 0, 0), (39, .if_icmp .eq 10, 3, 0, 0, 0), (42, .iload 5, 2, 0, 0, 0), (44, .bipush 32, 2, 32, 0, 0), (46, .if_icmp .ne 6, 3, 0, 0, 0)],
  [(49, .bipush (-2), 2, 2, 1, 0), (51, .ireturn, 1, 0, 0, 0), (52, .aload_n 0, 1, 0, 0, 0), (53, .invokevirtual 71, 3, 43, 0, 8), (56, .aload 4, 2, 0, 0, 0), (58, .iload_n 3, 1, 0, 0, 0), (59, .bipush 63, 2, 63, 0, 0), (61, .invokevirtual 99, 3, 38, 2, 5)],
  [(64, .iload 5, 2, 0, 0, 0), (66, .ireturn, 1, 0, 0, 0)]]
/-- WornSums.canBeMadeOut(II)Z -/
def pc_53 : List (List (Nat × smI)) := [[(0, .iload_n 0, 1, 0, 0, 0), (1, .ifCond .ne 10, 3, 0, 0, 0), (4, .iload_n 1, 1, 0, 0, 0), (5, .invokestatic 203, 3, 31, 1, 0), (8, .goto 7, 3, 0, 0, 0), (11, .iload_n 1, 1, 0, 0, 0), (12, .invokestatic 206, 3, 33, 1, 0), (15, .ireturn, 1, 0, 0, 1)]]
/-- WornSums$Row.worn()I -/
def pc_54 : List (List (Nat × smI)) := [[(0, .iconst 0, 1, 0, 0, 0), (1, .istore_n 1, 1, 0, 0, 0), (2, .iconst 0, 1, 0, 0, 0), (3, .istore_n 2, 1, 0, 0, 0), (4, .iload_n 2, 1, 0, 0, 0), (5, .aload_n 0, 1, 0, 0, 0), (6, .getfield 9, 3, 4, 1, 0), (9, .if_icmp .ge 22, 3, 0, 0, 0), (12, .aload_n 0, 1, 0, 0, 0), (13, .iload_n 2, 1, 0, 0, 0), (14, .invokevirtual 42, 3, 37, 1, 5)],
  [(17, .bipush 63, 2, 63, 0, 0), (19, .if_icmp .ne 6, 3, 0, 0, 0), (22, .iinc 1 1, 3, 1, 0, 0), (25, .iinc 2 1, 3, 1, 0, 0), (28, .goto (-24), 3, 0, 0, 0), (31, .iload_n 1, 1, 0, 0, 0)],
  [(32, .ireturn, 1, 0, 0, 0)]]
/-- WornSums$Sheet.wornIn(I)I -/
def pc_55 : List (List (Nat × smI)) := [[(0, .aload_n 0, 1, 0, 0, 0), (1, .iload_n 1, 1, 0, 0, 0), (2, .invokevirtual 37, 3, 48, 1, 6), (5, .ifCond .eq 25, 3, 0, 0, 0), (8, .aload_n 0, 1, 0, 0, 0), (9, .getfield 15, 3, 5, 0, 1), (12, .iload_n 1, 1, 0, 0, 0), (13, .aaload, 1, 0, 0, 0), (14, .invokevirtual 48, 3, 54, 0, 5)],
  [(17, .aload_n 0, 1, 0, 0, 0), (18, .getfield 19, 3, 5, 1, 1), (21, .iload_n 1, 1, 0, 0, 0), (22, .aaload, 1, 0, 0, 0), (23, .invokevirtual 48, 3, 54, 0, 5), (26, .iadd, 1, 0, 0, 0), (27, .goto 4, 3, 0, 0, 0), (30, .iconst 0, 1, 0, 0, 0), (31, .ireturn, 1, 0, 0, 0)]]
/-- WornSums.makes(IIII)I -/
def pc_56 : List (List (Nat × smI)) := [[(0, .aload_n 0, 1, 0, 0, 0), (1, .getfield 19, 3, 7, 1, 1), (4, .iload_n 1, 1, 0, 0, 0), (5, .iload_n 2, 1, 0, 0, 0), (6, .invokevirtual 86, 3, 51, 2, 6), (9, .astore 5, 2, 0, 0, 0), (11, .aload 5, 2, 0, 0, 0), (13, .ifnull 21, 3, 0, 0, 0)],
  [(16, .aload 5, 2, 0, 0, 0), (18, .iload_n 3, 1, 0, 0, 0), (19, .invokevirtual 90, 3, 36, 1, 5), (22, .ifCond .eq 12, 3, 0, 0, 0), (25, .iload_n 2, 1, 0, 0, 0), (26, .iload 4, 2, 0, 0, 0), (28, .invokestatic 103, 3, 53, 2, 0), (31, .ifCond .ne 5, 3, 0, 0, 0)],
  [(34, .iconst (-1), 1, 1, 1, 0), (35, .ireturn, 1, 0, 0, 0), (36, .aload 5, 2, 0, 0, 0), (38, .iload_n 3, 1, 0, 0, 0), (39, .invokevirtual 95, 3, 37, 1, 5), (42, .bipush 63, 2, 63, 0, 0), (44, .if_icmp .eq 6, 3, 0, 0, 0), (47, .bipush (-2), 2, 2, 1, 0)],
  [(49, .ireturn, 1, 0, 0, 0), (50, .aload_n 0, 1, 0, 0, 0), (51, .invokevirtual 71, 3, 43, 0, 8), (54, .aload 5, 2, 0, 0, 0), (56, .iload_n 3, 1, 0, 0, 0), (57, .iload 4, 2, 0, 0, 0), (59, .i2c, 1, 0, 0, 0), (60, .invokevirtual 99, 3, 38, 2, 5), (63, .aload_n 0, 1, 0, 0, 0)],
  [(64, .getfield 19, 3, 7, 1, 1), (67, .iload_n 1, 1, 0, 0, 0), (68, .invokevirtual 107, 3, 55, 1, 6), (71, .ireturn, 1, 0, 0, 0)]]
/-- WornSums.slacks(I)I -/
def pc_57 : List (List (Nat × smI)) := [[(0, .iload_n 1, 1, 0, 0, 0), (1, .ifCond .lt 8, 3, 0, 0, 0), (4, .iload_n 1, 1, 0, 0, 0), (5, .iconst 2, 1, 2, 0, 0), (6, .if_icmp .le 5, 3, 0, 0, 0), (9, .iconst (-1), 1, 1, 1, 0), (10, .ireturn, 1, 0, 0, 0), (11, .aload_n 0, 1, 0, 0, 0), (12, .getfield 19, 3, 7, 1, 1), (15, .getfield 111, 3, 5, 3, 0)],
  [(18, .istore_n 2, 1, 0, 0, 0), (19, .iload_n 1, 1, 0, 0, 0), (20, .iload_n 2, 1, 0, 0, 0), (21, .if_icmp .ne 6, 3, 0, 0, 0), (24, .bipush (-2), 2, 2, 1, 0), (26, .ireturn, 1, 0, 0, 0), (27, .aload_n 0, 1, 0, 0, 0), (28, .invokevirtual 71, 3, 43, 0, 8), (31, .aload_n 0, 1, 0, 0, 0)],
  [(32, .getfield 19, 3, 7, 1, 1), (35, .iload_n 1, 1, 0, 0, 0), (36, .putfield 111, 3, 5, 3, 0), (39, .iload_n 2, 1, 0, 0, 0), (40, .ireturn, 1, 0, 0, 0)]]
/-- WornSums.totals(I)I -/
def pc_58 : List (List (Nat × smI)) := [[(0, .iload_n 1, 1, 0, 0, 0), (1, .bipush (-9), 2, 9, 1, 0), (3, .if_icmp .eq 16, 3, 0, 0, 0), (6, .iload_n 1, 1, 0, 0, 0), (7, .ifCond .lt 10, 3, 0, 0, 0), (10, .iload_n 1, 1, 0, 0, 0), (11, .sipush 9999, 3, 9999, 0, 0), (14, .if_icmp .le 5, 3, 0, 0, 0)],
  [(17, .iconst (-1), 1, 1, 1, 0), (18, .ireturn, 1, 0, 0, 0), (19, .aload_n 0, 1, 0, 0, 0), (20, .getfield 19, 3, 7, 1, 1), (23, .getfield 114, 3, 5, 4, 0), (26, .istore_n 2, 1, 0, 0, 0), (27, .iload_n 1, 1, 0, 0, 0), (28, .iload_n 2, 1, 0, 0, 0), (29, .if_icmp .ne 6, 3, 0, 0, 0)],
  [(32, .bipush (-2), 2, 2, 1, 0), (34, .ireturn, 1, 0, 0, 0), (35, .aload_n 0, 1, 0, 0, 0), (36, .invokevirtual 71, 3, 43, 0, 8), (39, .aload_n 0, 1, 0, 0, 0), (40, .getfield 19, 3, 7, 1, 1), (43, .iload_n 1, 1, 0, 0, 0), (44, .putfield 114, 3, 5, 4, 0), (47, .iload_n 2, 1, 0, 0, 0)],
  [(48, .ireturn, 1, 0, 0, 0)]]
/-- WornSums$History.takeBack(LWornSums$Sheet;)V -/
def pc_59 : List (List (Nat × smI)) := [[(0, .aload_n 0, 1, 0, 0, 0), (1, .getfield 23, 3, 2, 2, 0), (4, .ifCond .ne 4, 3, 0, 0, 0), (7, .return_, 1, 0, 0, 0), (8, .aload_n 0, 1, 0, 0, 0), (9, .aload_n 0, 1, 0, 0, 0), (10, .getfield 19, 3, 2, 1, 0), (13, .iconst 1, 1, 1, 0, 0), (14, .isub, 1, 0, 0, 0), (15, .invokestatic 26, 3, 92, 1, 0)],
  [(18, .putfield 19, 3, 2, 1, 0), (21, .aload_n 1, 1, 0, 0, 0), (22, .aload_n 0, 1, 0, 0, 0), (23, .getfield 13, 3, 2, 0, 1), (26, .aload_n 0, 1, 0, 0, 0), (27, .getfield 19, 3, 2, 1, 0), (30, .aaload, 1, 0, 0, 0), (31, .invokevirtual 30, 3, 40, 1, 6)],
  [(34, .aload_n 0, 1, 0, 0, 0), (35, .dup, 1, 0, 0, 0), (36, .getfield 23, 3, 2, 2, 0), (39, .iconst 1, 1, 1, 0, 0), (40, .isub, 1, 0, 0, 0), (41, .putfield 23, 3, 2, 2, 0), (44, .return_, 1, 0, 0, 0)]]
/-- WornSums.undo()I -/
def pc_60 : List (List (Nat × smI)) := [[(0, .aload_n 0, 1, 0, 0, 0), (1, .getfield 26, 3, 7, 2, 1), (4, .getfield 117, 3, 2, 2, 0), (7, .ifCond .ne 6, 3, 0, 0, 0), (10, .bipush (-2), 2, 2, 1, 0), (12, .ireturn, 1, 0, 0, 0), (13, .aload_n 0, 1, 0, 0, 0), (14, .getfield 26, 3, 7, 2, 1)],
  [(17, .aload_n 0, 1, 0, 0, 0), (18, .getfield 19, 3, 7, 1, 1), (21, .invokevirtual 118, 3, 59, 1, 3), (24, .aload_n 0, 1, 0, 0, 0), (25, .getfield 52, 3, 7, 6, 1), (28, .invokevirtual 122, 3, 42, 0, 2), (31, .aload_n 0, 1, 0, 0, 0)],
  [(32, .getfield 26, 3, 7, 2, 1), (35, .getfield 117, 3, 2, 2, 0), (38, .ireturn, 1, 0, 0, 0)]]
/-- WornSums$Sheet.lengthOf(II)I -/
def pc_61 : List (List (Nat × smI)) := [[(0, .aload_n 0, 1, 0, 0, 0), (1, .iload_n 1, 1, 0, 0, 0), (2, .iload_n 2, 1, 0, 0, 0), (3, .invokevirtual 41, 3, 51, 2, 6), (6, .astore_n 3, 1, 0, 0, 0), (7, .aload_n 3, 1, 0, 0, 0), (8, .ifnonnull 7, 3, 0, 0, 0), (11, .iconst 0, 1, 0, 0, 0), (12, .goto 7, 3, 0, 0, 0), (15, .aload_n 3, 1, 0, 0, 0)],
  [(16, .getfield 45, 3, 4, 1, 0), (19, .ireturn, 1, 0, 0, 0)]]
/-- WornSums$NumberWords.doubtOf(LWornSums$Row;II)I -/
def pc_62 : List (List (Nat × smI)) := [[(0, .aload_n 1, 1, 0, 0, 0), (1, .getfield 77, 3, 4, 1, 0), (4, .aload_n 0, 1, 0, 0, 0), (5, .iload_n 3, 1, 0, 0, 0), (6, .invokevirtual 65, 3, 16, 1, 4), (9, .if_icmp .eq 6, 3, 0, 0, 0), (12, .bipush (-9), 2, 9, 1, 0), (14, .ireturn, 1, 0, 0, 0), (15, .iconst 0, 1, 0, 0, 0)],
  [(16, .istore 4, 2, 0, 0, 0), (18, .iconst 0, 1, 0, 0, 0), (19, .istore 5, 2, 0, 0, 0), (21, .iconst 0, 1, 0, 0, 0), (22, .istore 6, 2, 0, 0, 0), (24, .iload 6, 2, 0, 0, 0), (26, .aload_n 1, 1, 0, 0, 0), (27, .getfield 77, 3, 4, 1, 0), (30, .if_icmp .ge 82, 3, 0, 0, 0)],
  [(33, .aload_n 1, 1, 0, 0, 0), (34, .iload 6, 2, 0, 0, 0), (36, .invokevirtual 82, 3, 37, 1, 5), (39, .istore 7, 2, 0, 0, 0), (41, .aload_n 0, 1, 0, 0, 0), (42, .iload_n 3, 1, 0, 0, 0), (43, .iload 6, 2, 0, 0, 0), (45, .invokevirtual 69, 3, 17, 2, 4)],
  [(48, .istore 8, 2, 0, 0, 0), (50, .iload 7, 2, 0, 0, 0), (52, .bipush 32, 2, 32, 0, 0), (54, .if_icmp .ne 7, 3, 0, 0, 0), (57, .iconst 1, 1, 1, 0, 0), (58, .goto 4, 3, 0, 0, 0), (61, .iconst 0, 1, 0, 0, 0), (62, .iload 8, 2, 0, 0, 0)],
  [(64, .bipush 32, 2, 32, 0, 0), (66, .if_icmp .ne 7, 3, 0, 0, 0), (69, .iconst 1, 1, 1, 0, 0), (70, .goto 4, 3, 0, 0, 0), (73, .iconst 0, 1, 0, 0, 0), (74, .if_icmp .eq 6, 3, 0, 0, 0), (77, .bipush (-9), 2, 9, 1, 0), (79, .ireturn, 1, 0, 0, 0)],
  [(80, .iload 7, 2, 0, 0, 0), (82, .bipush 63, 2, 63, 0, 0), (84, .if_icmp .ne 9, 3, 0, 0, 0), (87, .iinc 4 1, 3, 1, 0, 0), (90, .goto 16, 3, 0, 0, 0), (93, .iload 7, 2, 0, 0, 0), (95, .iload 8, 2, 0, 0, 0)],
  [(97, .if_icmp .eq 9, 3, 0, 0, 0), (100, .iinc 4 3, 3, 3, 0, 0), (103, .iinc 5 1, 3, 1, 0, 0), (106, .iinc 6 1, 3, 1, 0, 0), (109, .goto (-85), 3, 0, 0, 0)],
  [(112, .iload 5, 2, 0, 0, 0), (114, .iload_n 2, 1, 0, 0, 0), (115, .if_icmp .gt 8, 3, 0, 0, 0), (118, .iload 4, 2, 0, 0, 0), (120, .goto 5, 3, 0, 0, 0), (123, .bipush (-9), 2, 9, 1, 0), (125, .ireturn, 1, 0, 0, 0)]]
/-- WornSums$Figures.lengthOf(I)I -/
def pc_63 : List (List (Nat × smI)) := [[(0, .iload_n 0, 1, 0, 0, 0), (1, .bipush 10, 2, 10, 0, 0), (3, .if_icmp .ge 5, 3, 0, 0, 0), (6, .iconst 1, 1, 1, 0, 0), (7, .ireturn, 1, 0, 0, 0), (8, .iload_n 0, 1, 0, 0, 0), (9, .bipush 100, 2, 100, 0, 0), (11, .if_icmp .ge 7, 3, 0, 0, 0), (14, .iconst 2, 1, 2, 0, 0), (15, .goto 4, 3, 0, 0, 0)],
  [(18, .iconst 3, 1, 3, 0, 0), (19, .ireturn, 1, 0, 0, 0)]]
/-- WornSums$Figures.areAlike(II)Z -/
def pc_64 : List (List (Nat × smI)) := [[(0, .iload_n 0, 1, 0, 0, 0), (1, .iload_n 1, 1, 0, 0, 0), (2, .invokestatic 29, 3, 0, 0, 2), (5, .istore_n 2, 1, 0, 0, 0), (6, .iload_n 0, 1, 0, 0, 0), (7, .iload_n 1, 1, 0, 0, 0), (8, .invokestatic 35, 3, 0, 0, 1), (11, .istore_n 3, 1, 0, 0, 0), (12, .iconst 0, 1, 0, 0, 0), (13, .istore 4, 2, 0, 0, 0), (15, .iload 4, 2, 0, 0, 0)],
  [(17, .iconst 1, 1, 1, 0, 0), (18, .iadd, 1, 0, 0, 0), (19, .ldc 38, 2, 5, 0, 1), (21, .invokevirtual 40, 3, 7, 0, 0), (24, .if_icmp .ge 35, 3, 0, 0, 0), (27, .ldc 38, 2, 5, 0, 1), (29, .iload 4, 2, 0, 0, 0), (31, .invokevirtual 45, 3, 12, 1, 0)],
  [(34, .iload_n 2, 1, 0, 0, 0), (35, .if_icmp .ne 18, 3, 0, 0, 0), (38, .ldc 38, 2, 5, 0, 1), (40, .iload 4, 2, 0, 0, 0), (42, .iconst 1, 1, 1, 0, 0), (43, .iadd, 1, 0, 0, 0), (44, .invokevirtual 45, 3, 12, 1, 0), (47, .iload_n 3, 1, 0, 0, 0)],
  [(48, .if_icmp .ne 5, 3, 0, 0, 0), (51, .iconst 1, 1, 1, 0, 0), (52, .ireturn, 1, 0, 0, 1), (53, .iinc 4 2, 3, 2, 0, 0), (56, .goto (-41), 3, 0, 0, 0), (59, .iconst 0, 1, 0, 0, 0), (60, .ireturn, 1, 0, 0, 1)]]
/-- WornSums$Figures.doubtOf(LWornSums$Row;I)I -/
def pc_65 : List (List (Nat × smI)) := [[(0, .aload_n 0, 1, 0, 0, 0), (1, .getfield 9, 3, 4, 1, 0), (4, .iload_n 1, 1, 0, 0, 0), (5, .invokestatic 15, 3, 63, 1, 0), (8, .if_icmp .eq 6, 3, 0, 0, 0), (11, .bipush (-9), 2, 9, 1, 0), (13, .ireturn, 1, 0, 0, 0), (14, .iconst 0, 1, 0, 0, 0), (15, .istore_n 2, 1, 0, 0, 0)],
  [(16, .iload_n 1, 1, 0, 0, 0), (17, .istore_n 3, 1, 0, 0, 0), (18, .aload_n 0, 1, 0, 0, 0), (19, .getfield 9, 3, 4, 1, 0), (22, .iconst 1, 1, 1, 0, 0), (23, .isub, 1, 0, 0, 0), (24, .istore 4, 2, 0, 0, 0), (26, .iload 4, 2, 0, 0, 0), (28, .ifCond .lt 70, 3, 0, 0, 0), (31, .aload_n 0, 1, 0, 0, 0)],
  [(32, .iload 4, 2, 0, 0, 0), (34, .invokevirtual 21, 3, 37, 1, 5), (37, .istore 5, 2, 0, 0, 0), (39, .bipush 48, 2, 48, 0, 0), (41, .iload_n 3, 1, 0, 0, 0), (42, .bipush 10, 2, 10, 0, 0), (44, .irem, 1, 0, 0, 0), (45, .iadd, 1, 0, 0, 0), (46, .istore 6, 2, 0, 0, 0)],
  [(48, .iload_n 3, 1, 0, 0, 0), (49, .bipush 10, 2, 10, 0, 0), (51, .idiv, 1, 0, 0, 0), (52, .istore_n 3, 1, 0, 0, 0), (53, .iload 5, 2, 0, 0, 0), (55, .bipush 63, 2, 63, 0, 0), (57, .if_icmp .ne 9, 3, 0, 0, 0), (60, .iinc 2 1, 3, 1, 0, 0), (63, .goto 29, 3, 0, 0, 0)],
  [(66, .iload 5, 2, 0, 0, 0), (68, .iload 6, 2, 0, 0, 0), (70, .invokestatic 25, 3, 64, 2, 0), (73, .ifCond .eq 9, 3, 0, 0, 0), (76, .iinc 2 2, 3, 2, 0, 0), (79, .goto 13, 3, 0, 0, 0)],
  [(82, .iload 5, 2, 0, 0, 0), (84, .iload 6, 2, 0, 0, 0), (86, .if_icmp .eq 6, 3, 0, 0, 0), (89, .bipush (-9), 2, 9, 1, 0), (91, .ireturn, 1, 0, 0, 0), (92, .iinc 4 (-1), 3, 1, 1, 0), (95, .goto (-69), 3, 0, 0, 0)],
  [(98, .iload_n 2, 1, 0, 0, 0), (99, .ireturn, 1, 0, 0, 0)]]
/-- WornSums$Agreeing.add(II)V -/
def pc_66 : List (List (Nat × smI)) := [[(0, .aload_n 0, 1, 0, 0, 0), (1, .getfield 18, 3, 0, 2, 0), (4, .aload_n 0, 1, 0, 0, 0), (5, .getfield 9, 3, 0, 0, 1), (8, .arraylength, 1, 0, 0, 0), (9, .if_icmp .ge 45, 3, 0, 0, 0), (12, .aload_n 0, 1, 0, 0, 0), (13, .getfield 18, 3, 0, 2, 0)],
  [(16, .aload_n 0, 1, 0, 0, 0), (17, .getfield 15, 3, 0, 1, 1), (20, .arraylength, 1, 0, 0, 0), (21, .if_icmp .ge 33, 3, 0, 0, 0), (24, .aload_n 0, 1, 0, 0, 0), (25, .getfield 9, 3, 0, 0, 1), (28, .aload_n 0, 1, 0, 0, 0), (29, .getfield 18, 3, 0, 2, 0)],
  [(32, .iload_n 1, 1, 0, 0, 0), (33, .iastore, 1, 0, 0, 0), (34, .aload_n 0, 1, 0, 0, 0), (35, .getfield 15, 3, 0, 1, 1), (38, .aload_n 0, 1, 0, 0, 0), (39, .getfield 18, 3, 0, 2, 0), (42, .iload_n 2, 1, 0, 0, 0), (43, .iastore, 1, 0, 0, 0), (44, .aload_n 0, 1, 0, 0, 0), (45, .dup, 1, 0, 0, 0), (46, .getfield 18, 3, 0, 2, 0)],
  [(49, .iconst 1, 1, 1, 0, 0), (50, .iadd, 1, 0, 0, 0), (51, .putfield 18, 3, 0, 2, 0), (54, .return_, 1, 0, 0, 0)]]
/-- WornSums$Agreeing.find(LWornSums$Row;LWornSums$Row;ILWornSums$NumberWords;)V -/
def pc_67 : List (List (Nat × smI)) := [[(0, .aload_n 0, 1, 0, 0, 0), (1, .iconst 0, 1, 0, 0, 0), (2, .putfield 18, 3, 0, 2, 0), (5, .aload_n 0, 1, 0, 0, 0), (6, .iconst 0, 1, 0, 0, 0), (7, .putfield 22, 3, 0, 3, 0), (10, .aload_n 0, 1, 0, 0, 0), (11, .iconst 0, 1, 0, 0, 0), (12, .putfield 25, 3, 0, 4, 0), (15, .iconst 0, 1, 0, 0, 0)],
  [(16, .istore 5, 2, 0, 0, 0), (18, .iload 5, 2, 0, 0, 0), (20, .sipush 1000, 3, 1000, 0, 0), (23, .if_icmp .ge 87, 3, 0, 0, 0), (26, .aload 4, 2, 0, 0, 0), (28, .aload_n 1, 1, 0, 0, 0), (29, .iload_n 3, 1, 0, 0, 0), (30, .iload 5, 2, 0, 0, 0)],
  [(32, .invokevirtual 28, 3, 62, 3, 4), (35, .istore 6, 2, 0, 0, 0), (37, .aload_n 2, 1, 0, 0, 0), (38, .iload 5, 2, 0, 0, 0), (40, .invokestatic 34, 3, 65, 2, 0), (43, .istore 7, 2, 0, 0, 0), (45, .iload 6, 2, 0, 0, 0), (47, .bipush (-9), 2, 9, 1, 0)],
  [(49, .if_icmp .eq 13, 3, 0, 0, 0), (52, .aload_n 0, 1, 0, 0, 0), (53, .dup, 1, 0, 0, 0), (54, .getfield 22, 3, 0, 3, 0), (57, .iconst 1, 1, 1, 0, 0), (58, .iadd, 1, 0, 0, 0), (59, .putfield 22, 3, 0, 3, 0), (62, .iload 7, 2, 0, 0, 0)],
  [(64, .bipush (-9), 2, 9, 1, 0), (66, .if_icmp .eq 13, 3, 0, 0, 0), (69, .aload_n 0, 1, 0, 0, 0), (70, .dup, 1, 0, 0, 0), (71, .getfield 25, 3, 0, 4, 0), (74, .iconst 1, 1, 1, 0, 0), (75, .iadd, 1, 0, 0, 0), (76, .putfield 25, 3, 0, 4, 0), (79, .iload 6, 2, 0, 0, 0)],
  [(81, .bipush (-9), 2, 9, 1, 0), (83, .if_icmp .eq 21, 3, 0, 0, 0), (86, .iload 7, 2, 0, 0, 0), (88, .bipush (-9), 2, 9, 1, 0), (90, .if_icmp .eq 14, 3, 0, 0, 0), (93, .aload_n 0, 1, 0, 0, 0), (94, .iload 5, 2, 0, 0, 0)],
  [(96, .iload 6, 2, 0, 0, 0), (98, .iload 7, 2, 0, 0, 0), (100, .iadd, 1, 0, 0, 0), (101, .invokevirtual 39, 3, 66, 2, 1), (104, .iinc 5 1, 3, 1, 0, 0), (107, .goto (-89), 3, 0, 0, 0), (110, .return_, 1, 0, 0, 0)]]
/-- WornSums$Findings.refresh(LWornSums$Sheet;LWornSums$NumberWords;)V -/
def pc_68 : List (List (Nat × smI)) := [[(0, .aload_n 0, 1, 0, 0, 0), (1, .getfield 17, 3, 1, 1, 0), (4, .ifCond .eq 4, 3, 0, 0, 0), (7, .return_, 1, 0, 0, 0), (8, .iconst 0, 1, 0, 0, 0), (9, .istore_n 3, 1, 0, 0, 0), (10, .iload_n 3, 1, 0, 0, 0), (11, .aload_n 1, 1, 0, 0, 0), (12, .getfield 45, 3, 5, 2, 0), (15, .if_icmp .ge 41, 3, 0, 0, 0)],
  [(18, .iload_n 3, 1, 0, 0, 0), (19, .bipush 6, 2, 6, 0, 0), (21, .if_icmp .ge 35, 3, 0, 0, 0), (24, .aload_n 0, 1, 0, 0, 0), (25, .getfield 11, 3, 1, 0, 1), (28, .iload_n 3, 1, 0, 0, 0), (29, .aaload, 1, 0, 0, 0), (30, .aload_n 1, 1, 0, 0, 0), (31, .getfield 50, 3, 5, 0, 1)],
  [(34, .iload_n 3, 1, 0, 0, 0), (35, .aaload, 1, 0, 0, 0), (36, .aload_n 1, 1, 0, 0, 0), (37, .getfield 54, 3, 5, 1, 1), (40, .iload_n 3, 1, 0, 0, 0), (41, .aaload, 1, 0, 0, 0), (42, .aload_n 1, 1, 0, 0, 0), (43, .getfield 57, 3, 5, 3, 0), (46, .aload_n 2, 1, 0, 0, 0), (47, .invokevirtual 60, 3, 67, 4, 1)],
  [(50, .iinc 3 1, 3, 1, 0, 0), (53, .goto (-43), 3, 0, 0, 0), (56, .aload_n 0, 1, 0, 0, 0), (57, .iconst 1, 1, 1, 0, 0), (58, .putfield 17, 3, 1, 1, 2), (61, .return_, 1, 0, 0, 0)]]
/-- WornSums$Findings.agreeingAt(I)LWornSums$Agreeing; -/
def pc_69 : List (List (Nat × smI)) := [[(0, .aload_n 0, 1, 0, 0, 0), (1, .getfield 11, 3, 1, 0, 1), (4, .iload_n 1, 1, 0, 0, 0), (5, .ifCond .lt 13, 3, 0, 0, 0), (8, .iload_n 1, 1, 0, 0, 0), (9, .bipush 6, 2, 6, 0, 0), (11, .if_icmp .ge 7, 3, 0, 0, 0), (14, .iload_n 1, 1, 0, 0, 0), (15, .goto 4, 3, 0, 0, 0)],
  [(18, .iconst 0, 1, 0, 0, 0), (19, .aaload, 1, 0, 0, 0), (20, .areturn, 1, 0, 0, 0)]]
/-- WornSums.agreeingOf(I)LWornSums$Agreeing; -/
def pc_70 : List (List (Nat × smI)) := [[(0, .aload_n 0, 1, 0, 0, 0), (1, .getfield 52, 3, 7, 6, 1), (4, .aload_n 0, 1, 0, 0, 0), (5, .getfield 19, 3, 7, 1, 1), (8, .aload_n 0, 1, 0, 0, 0), (9, .getfield 45, 3, 7, 5, 1), (12, .invokevirtual 177, 3, 68, 2, 2), (15, .aload_n 0, 1, 0, 0, 0)],
  [(16, .getfield 52, 3, 7, 6, 1), (19, .iload_n 1, 1, 0, 0, 0), (20, .invokevirtual 200, 3, 69, 1, 2), (23, .areturn, 1, 0, 0, 0)]]
/-- WornSums.entry(II)I -/
def pc_71 : List (List (Nat × smI)) := [[(0, .aload_n 0, 1, 0, 0, 0), (1, .getfield 19, 3, 7, 1, 1), (4, .iload_n 1, 1, 0, 0, 0), (5, .invokevirtual 78, 3, 48, 1, 6), (8, .ifCond .ne 5, 3, 0, 0, 0), (11, .iconst (-1), 1, 1, 1, 0), (12, .ireturn, 1, 0, 0, 0), (13, .iload_n 2, 1, 0, 0, 0), (14, .tableswitch 94 0 5 #[38, 48, 58, 67, 76, 85], 38, 0, 0, 0)],
  [],
  [],
  [(52, .aload_n 0, 1, 0, 0, 0), (53, .getfield 19, 3, 7, 1, 1), (56, .iload_n 1, 1, 0, 0, 0), (57, .iconst 0, 1, 0, 0, 0), (58, .invokevirtual 125, 3, 61, 2, 6), (61, .ireturn, 1, 0, 0, 0), (62, .aload_n 0, 1, 0, 0, 0), (63, .getfield 19, 3, 7, 1, 1)],
  [(66, .iload_n 1, 1, 0, 0, 0), (67, .iconst 1, 1, 1, 0, 0), (68, .invokevirtual 125, 3, 61, 2, 6), (71, .ireturn, 1, 0, 0, 0), (72, .aload_n 0, 1, 0, 0, 0), (73, .getfield 19, 3, 7, 1, 1), (76, .iload_n 1, 1, 0, 0, 0), (77, .invokevirtual 107, 3, 55, 1, 6)],
  [(80, .ireturn, 1, 0, 0, 0), (81, .aload_n 0, 1, 0, 0, 0), (82, .iload_n 1, 1, 0, 0, 0), (83, .invokevirtual 129, 3, 70, 1, 8), (86, .getfield 133, 3, 0, 3, 0), (89, .ireturn, 1, 0, 0, 0), (90, .aload_n 0, 1, 0, 0, 0), (91, .iload_n 1, 1, 0, 0, 0), (92, .invokevirtual 129, 3, 70, 1, 8), (95, .getfield 138, 3, 0, 4, 0)],
  [(98, .ireturn, 1, 0, 0, 0), (99, .aload_n 0, 1, 0, 0, 0), (100, .iload_n 1, 1, 0, 0, 0), (101, .invokevirtual 129, 3, 70, 1, 8), (104, .getfield 141, 3, 0, 2, 0), (107, .ireturn, 1, 0, 0, 0), (108, .iconst (-1), 1, 1, 1, 0), (109, .ireturn, 1, 0, 0, 0)]]
/-- WornSums.sign(III)I -/
def pc_72 : List (List (Nat × smI)) := [[(0, .aload_n 0, 1, 0, 0, 0), (1, .getfield 19, 3, 7, 1, 1), (4, .iload_n 1, 1, 0, 0, 0), (5, .iload_n 2, 1, 0, 0, 0), (6, .invokevirtual 86, 3, 51, 2, 6), (9, .astore 4, 2, 0, 0, 0), (11, .aload 4, 2, 0, 0, 0), (13, .ifnull 12, 3, 0, 0, 0)],
  [(16, .aload 4, 2, 0, 0, 0), (18, .iload_n 3, 1, 0, 0, 0), (19, .invokevirtual 90, 3, 36, 1, 5), (22, .ifCond .ne 7, 3, 0, 0, 0), (25, .iconst (-1), 1, 1, 1, 0), (26, .goto 9, 3, 0, 0, 0), (29, .aload 4, 2, 0, 0, 0), (31, .iload_n 3, 1, 0, 0, 0)],
  [(32, .invokevirtual 95, 3, 37, 1, 5), (35, .ireturn, 1, 0, 0, 0)]]
/-- WornSums.doubt(III)I -/
def pc_73 : List (List (Nat × smI)) := [[(0, .aload_n 0, 1, 0, 0, 0), (1, .getfield 19, 3, 7, 1, 1), (4, .iload_n 1, 1, 0, 0, 0), (5, .iload_n 3, 1, 0, 0, 0), (6, .invokevirtual 86, 3, 51, 2, 6), (9, .astore 4, 2, 0, 0, 0), (11, .aload 4, 2, 0, 0, 0), (13, .ifnull 10, 3, 0, 0, 0)],
  [(16, .iload_n 2, 1, 0, 0, 0), (17, .invokestatic 142, 3, 13, 1, 0), (20, .ifCond .ne 5, 3, 0, 0, 0), (23, .iconst (-1), 1, 1, 1, 0), (24, .ireturn, 1, 0, 0, 0), (25, .iload_n 3, 1, 0, 0, 0), (26, .ifCond .ne 23, 3, 0, 0, 0), (29, .aload_n 0, 1, 0, 0, 0), (30, .getfield 45, 3, 7, 5, 1)],
  [(33, .aload 4, 2, 0, 0, 0), (35, .aload_n 0, 1, 0, 0, 0), (36, .getfield 19, 3, 7, 1, 1), (39, .getfield 111, 3, 5, 3, 0), (42, .iload_n 2, 1, 0, 0, 0), (43, .invokevirtual 145, 3, 62, 3, 4), (46, .goto 9, 3, 0, 0, 0)],
  [(49, .aload 4, 2, 0, 0, 0), (51, .iload_n 2, 1, 0, 0, 0), (52, .invokestatic 149, 3, 65, 2, 0), (55, .ireturn, 1, 0, 0, 0)]]
/-- WornSums$Agreeing.doubtAt(I)I -/
def pc_74 : List (List (Nat × smI)) := [[(0, .iload_n 1, 1, 0, 0, 0), (1, .ifCond .lt 29, 3, 0, 0, 0), (4, .iload_n 1, 1, 0, 0, 0), (5, .aload_n 0, 1, 0, 0, 0), (6, .getfield 18, 3, 0, 2, 0), (9, .if_icmp .ge 21, 3, 0, 0, 0), (12, .iload_n 1, 1, 0, 0, 0), (13, .aload_n 0, 1, 0, 0, 0), (14, .getfield 15, 3, 0, 1, 1)],
  [(17, .arraylength, 1, 0, 0, 0), (18, .if_icmp .ge 12, 3, 0, 0, 0), (21, .aload_n 0, 1, 0, 0, 0), (22, .getfield 15, 3, 0, 1, 1), (25, .iload_n 1, 1, 0, 0, 0), (26, .iaload, 1, 0, 0, 0), (27, .goto 5, 3, 0, 0, 0), (30, .bipush (-9), 2, 9, 1, 0)],
  [(32, .ireturn, 1, 0, 0, 0)]]
/-- WornSums$Agreeing.rankOf(I)I -/
def pc_75 : List (List (Nat × smI)) := [[(0, .iconst 0, 1, 0, 0, 0), (1, .istore_n 2, 1, 0, 0, 0), (2, .iconst 0, 1, 0, 0, 0), (3, .istore_n 3, 1, 0, 0, 0), (4, .iload_n 3, 1, 0, 0, 0), (5, .aload_n 0, 1, 0, 0, 0), (6, .getfield 18, 3, 0, 2, 0), (9, .if_icmp .ge 67, 3, 0, 0, 0), (12, .aload_n 0, 1, 0, 0, 0), (13, .iload_n 3, 1, 0, 0, 0), (14, .invokevirtual 50, 3, 74, 1, 1)],
  [(17, .aload_n 0, 1, 0, 0, 0), (18, .iload_n 1, 1, 0, 0, 0), (19, .invokevirtual 50, 3, 74, 1, 1), (22, .if_icmp .ge 7, 3, 0, 0, 0), (25, .iconst 1, 1, 1, 0, 0), (26, .goto 4, 3, 0, 0, 0), (29, .iconst 0, 1, 0, 0, 0), (30, .istore 4, 2, 0, 0, 0)],
  [(32, .aload_n 0, 1, 0, 0, 0), (33, .iload_n 3, 1, 0, 0, 0), (34, .invokevirtual 50, 3, 74, 1, 1), (37, .aload_n 0, 1, 0, 0, 0), (38, .iload_n 1, 1, 0, 0, 0), (39, .invokevirtual 50, 3, 74, 1, 1), (42, .if_icmp .ne 12, 3, 0, 0, 0), (45, .iload_n 3, 1, 0, 0, 0), (46, .iload_n 1, 1, 0, 0, 0), (47, .if_icmp .ge 7, 3, 0, 0, 0)],
  [(50, .iconst 1, 1, 1, 0, 0), (51, .goto 4, 3, 0, 0, 0), (54, .iconst 0, 1, 0, 0, 0), (55, .istore 5, 2, 0, 0, 0), (57, .iload 4, 2, 0, 0, 0), (59, .ifCond .ne 8, 3, 0, 0, 0), (62, .iload 5, 2, 0, 0, 0)],
  [(64, .ifCond .eq 6, 3, 0, 0, 0), (67, .iinc 2 1, 3, 1, 0, 0), (70, .iinc 3 1, 3, 1, 0, 0), (73, .goto (-69), 3, 0, 0, 0), (76, .iload_n 2, 1, 0, 0, 0), (77, .ireturn, 1, 0, 0, 0)]]
/-- WornSums$Agreeing.indexOfRank(I)I -/
def pc_76 : List (List (Nat × smI)) := [[(0, .iconst 0, 1, 0, 0, 0), (1, .istore_n 2, 1, 0, 0, 0), (2, .iload_n 2, 1, 0, 0, 0), (3, .aload_n 0, 1, 0, 0, 0), (4, .getfield 18, 3, 0, 2, 0), (7, .if_icmp .ge 20, 3, 0, 0, 0), (10, .aload_n 0, 1, 0, 0, 0), (11, .iload_n 2, 1, 0, 0, 0), (12, .invokevirtual 47, 3, 75, 1, 1), (15, .iload_n 1, 1, 0, 0, 0)],
  [(16, .if_icmp .ne 5, 3, 0, 0, 0), (19, .iload_n 2, 1, 0, 0, 0), (20, .ireturn, 1, 0, 0, 0), (21, .iinc 2 1, 3, 1, 0, 0), (24, .goto (-22), 3, 0, 0, 0), (27, .bipush (-9), 2, 9, 1, 0), (29, .ireturn, 1, 0, 0, 0)]]
/-- WornSums$Agreeing.numberAt(I)I -/
def pc_77 : List (List (Nat × smI)) := [[(0, .iload_n 1, 1, 0, 0, 0), (1, .ifCond .lt 29, 3, 0, 0, 0), (4, .iload_n 1, 1, 0, 0, 0), (5, .aload_n 0, 1, 0, 0, 0), (6, .getfield 18, 3, 0, 2, 0), (9, .if_icmp .ge 21, 3, 0, 0, 0), (12, .iload_n 1, 1, 0, 0, 0), (13, .aload_n 0, 1, 0, 0, 0), (14, .getfield 9, 3, 0, 0, 1)],
  [(17, .arraylength, 1, 0, 0, 0), (18, .if_icmp .ge 12, 3, 0, 0, 0), (21, .aload_n 0, 1, 0, 0, 0), (22, .getfield 9, 3, 0, 0, 1), (25, .iload_n 1, 1, 0, 0, 0), (26, .iaload, 1, 0, 0, 0), (27, .goto 5, 3, 0, 0, 0), (30, .bipush (-9), 2, 9, 1, 0)],
  [(32, .ireturn, 1, 0, 0, 0)]]
/-- WornSums.ranked(III)I -/
def pc_78 : List (List (Nat × smI)) := [[(0, .aload_n 0, 1, 0, 0, 0), (1, .getfield 19, 3, 7, 1, 1), (4, .iload_n 1, 1, 0, 0, 0), (5, .invokevirtual 78, 3, 48, 1, 6), (8, .ifCond .eq 16, 3, 0, 0, 0), (11, .iload_n 2, 1, 0, 0, 0), (12, .ifCond .lt 12, 3, 0, 0, 0), (15, .iload_n 3, 1, 0, 0, 0)],
  [(16, .ifCond .lt 8, 3, 0, 0, 0), (19, .iload_n 3, 1, 0, 0, 0), (20, .iconst 1, 1, 1, 0, 0), (21, .if_icmp .le 5, 3, 0, 0, 0), (24, .iconst (-1), 1, 1, 1, 0), (25, .ireturn, 1, 0, 0, 0), (26, .aload_n 0, 1, 0, 0, 0), (27, .iload_n 1, 1, 0, 0, 0), (28, .invokevirtual 129, 3, 70, 1, 8), (31, .astore 4, 2, 0, 0, 0)],
  [(33, .aload 4, 2, 0, 0, 0), (35, .iload_n 2, 1, 0, 0, 0), (36, .invokevirtual 154, 3, 76, 1, 1), (39, .istore 5, 2, 0, 0, 0), (41, .iload 5, 2, 0, 0, 0), (43, .bipush (-9), 2, 9, 1, 0), (45, .if_icmp .ne 6, 3, 0, 0, 0)],
  [(48, .bipush (-9), 2, 9, 1, 0), (50, .ireturn, 1, 0, 0, 0), (51, .iload_n 3, 1, 0, 0, 0), (52, .ifCond .ne 13, 3, 0, 0, 0), (55, .aload 4, 2, 0, 0, 0), (57, .iload 5, 2, 0, 0, 0), (59, .invokevirtual 157, 3, 77, 1, 1), (62, .goto 10, 3, 0, 0, 0)],
  [(65, .aload 4, 2, 0, 0, 0), (67, .iload 5, 2, 0, 0, 0), (69, .invokevirtual 160, 3, 74, 1, 1), (72, .ireturn, 1, 0, 0, 0)]]
/-- WornSums.word(II)I -/
def pc_79 : List (List (Nat × smI)) := [[(0, .iload_n 1, 1, 0, 0, 0), (1, .invokestatic 142, 3, 13, 1, 0), (4, .ifCond .eq 8, 3, 0, 0, 0), (7, .iload_n 2, 1, 0, 0, 0), (8, .iconst (-1), 1, 1, 1, 0), (9, .if_icmp .ge 5, 3, 0, 0, 0), (12, .iconst (-1), 1, 1, 1, 0), (13, .ireturn, 1, 0, 0, 0), (14, .iload_n 2, 1, 0, 0, 0), (15, .iconst (-1), 1, 1, 1, 0)],
  [(16, .if_icmp .ne 14, 3, 0, 0, 0), (19, .aload_n 0, 1, 0, 0, 0), (20, .getfield 45, 3, 7, 5, 1), (23, .iload_n 1, 1, 0, 0, 0), (24, .invokevirtual 163, 3, 16, 1, 4), (27, .goto 12, 3, 0, 0, 0), (30, .aload_n 0, 1, 0, 0, 0), (31, .getfield 45, 3, 7, 5, 1)],
  [(34, .iload_n 1, 1, 0, 0, 0), (35, .iload_n 2, 1, 0, 0, 0), (36, .invokevirtual 165, 3, 17, 2, 4), (39, .ireturn, 1, 0, 0, 0)]]
/-- WornSums$Findings.alteredAmong(I)I -/
def pc_80 : List (List (Nat × smI)) := [[(0, .iconst 0, 1, 0, 0, 0), (1, .istore_n 2, 1, 0, 0, 0), (2, .iconst 0, 1, 0, 0, 0), (3, .istore_n 3, 1, 0, 0, 0), (4, .iload_n 3, 1, 0, 0, 0), (5, .iload_n 1, 1, 0, 0, 0), (6, .if_icmp .ge 30, 3, 0, 0, 0), (9, .iload_n 3, 1, 0, 0, 0), (10, .bipush 6, 2, 6, 0, 0), (12, .if_icmp .ge 24, 3, 0, 0, 0), (15, .aload_n 0, 1, 0, 0, 0)],
  [(16, .getfield 11, 3, 1, 0, 1), (19, .iload_n 3, 1, 0, 0, 0), (20, .aaload, 1, 0, 0, 0), (21, .getfield 64, 3, 0, 2, 0), (24, .ifCond .ne 6, 3, 0, 0, 0), (27, .iinc 2 1, 3, 1, 0, 0), (30, .iinc 3 1, 3, 1, 0, 0)],
  [(33, .goto (-29), 3, 0, 0, 0), (36, .iload_n 2, 1, 0, 0, 0), (37, .ireturn, 1, 0, 0, 0)]]
/-- WornSums$Findings.findLeastOfAnySum(I)V -/
def pc_81 : List (List (Nat × smI)) := [[(0, .aload_n 0, 1, 0, 0, 0), (1, .iconst 0, 1, 0, 0, 0), (2, .putfield 30, 3, 1, 4, 0), (5, .iconst 0, 1, 0, 0, 0), (6, .istore_n 2, 1, 0, 0, 0), (7, .iload_n 2, 1, 0, 0, 0), (8, .iload_n 1, 1, 0, 0, 0), (9, .if_icmp .ge 61, 3, 0, 0, 0), (12, .iload_n 2, 1, 0, 0, 0), (13, .bipush 6, 2, 6, 0, 0), (15, .if_icmp .ge 55, 3, 0, 0, 0)],
  [(18, .aload_n 0, 1, 0, 0, 0), (19, .getfield 11, 3, 1, 0, 1), (22, .iload_n 2, 1, 0, 0, 0), (23, .aaload, 1, 0, 0, 0), (24, .iconst 0, 1, 0, 0, 0), (25, .invokevirtual 90, 3, 76, 1, 1), (28, .istore_n 3, 1, 0, 0, 0), (29, .aload_n 0, 1, 0, 0, 0), (30, .getfield 26, 3, 1, 3, 1)],
  [(33, .iload_n 2, 1, 0, 0, 0), (34, .aload_n 0, 1, 0, 0, 0), (35, .getfield 11, 3, 1, 0, 1), (38, .iload_n 2, 1, 0, 0, 0), (39, .aaload, 1, 0, 0, 0), (40, .iload_n 3, 1, 0, 0, 0), (41, .invokevirtual 93, 3, 77, 1, 1), (44, .iastore, 1, 0, 0, 0), (45, .aload_n 0, 1, 0, 0, 0), (46, .dup, 1, 0, 0, 0), (47, .getfield 30, 3, 1, 4, 0)],
  [(50, .aload_n 0, 1, 0, 0, 0), (51, .getfield 11, 3, 1, 0, 1), (54, .iload_n 2, 1, 0, 0, 0), (55, .aaload, 1, 0, 0, 0), (56, .iload_n 3, 1, 0, 0, 0), (57, .invokevirtual 96, 3, 74, 1, 1), (60, .iadd, 1, 0, 0, 0), (61, .putfield 30, 3, 1, 4, 0)],
  [(64, .iinc 2 1, 3, 1, 0, 0), (67, .goto (-60), 3, 0, 0, 0), (70, .return_, 1, 0, 0, 0)]]
/-- java/util/Arrays.fill([II)V -/
def pc_82 : List (List (Nat × smI)) := [[(0, .iconst 0, 1, 0, 0, 0), (1, .istore_n 2, 1, 0, 0, 0), (2, .aload_n 0, 1, 0, 0, 0), (3, .arraylength, 1, 0, 0, 0), (4, .istore_n 3, 1, 0, 0, 0), (5, .iload_n 2, 1, 0, 0, 0), (6, .iload_n 3, 1, 0, 0, 0), (7, .if_icmp .ge 13, 3, 0, 0, 0), (10, .aload_n 0, 1, 0, 0, 0), (11, .iload_n 2, 1, 0, 0, 0), (12, .iload_n 1, 1, 0, 0, 0), (13, .iastore, 1, 0, 0, 0), (14, .iinc 2 1, 3, 1, 0, 0)],
  [(17, .goto (-12), 3, 0, 0, 0), (20, .return_, 1, 0, 0, 0)]]
/-- WornSums$Agreeing.highest()I -/
def pc_83 : List (List (Nat × smI)) := [[(0, .aload_n 0, 1, 0, 0, 0), (1, .getfield 18, 3, 0, 2, 0), (4, .ifCond .ne 7, 3, 0, 0, 0), (7, .iconst 0, 1, 0, 0, 0), (8, .goto 13, 3, 0, 0, 0), (11, .aload_n 0, 1, 0, 0, 0), (12, .aload_n 0, 1, 0, 0, 0), (13, .getfield 18, 3, 0, 2, 0)],
  [(16, .iconst 1, 1, 1, 0, 0), (17, .isub, 1, 0, 0, 0), (18, .invokevirtual 43, 3, 77, 1, 1), (21, .ireturn, 1, 0, 0, 0)]]
/-- WornSums$Findings.doubtWith(LWornSums$Agreeing;I[II)I -/
def pc_84 : List (List (Nat × smI)) := [[(0, .iload_n 3, 1, 0, 0, 0), (1, .aload_n 0, 1, 0, 0, 0), (2, .iload_n 1, 1, 0, 0, 0), (3, .invokevirtual 93, 3, 77, 1, 1), (6, .isub, 1, 0, 0, 0), (7, .istore 4, 2, 0, 0, 0), (9, .iload 4, 2, 0, 0, 0), (11, .ifCond .lt 18, 3, 0, 0, 0), (14, .iload 4, 2, 0, 0, 0)],
  [(16, .aload_n 2, 1, 0, 0, 0), (17, .arraylength, 1, 0, 0, 0), (18, .if_icmp .ge 11, 3, 0, 0, 0), (21, .aload_n 2, 1, 0, 0, 0), (22, .iload 4, 2, 0, 0, 0), (24, .iaload, 1, 0, 0, 0), (25, .iconst (-1), 1, 1, 1, 0), (26, .if_icmp .ne 5, 3, 0, 0, 0), (29, .iconst (-1), 1, 1, 1, 0), (30, .ireturn, 1, 0, 0, 0), (31, .aload_n 0, 1, 0, 0, 0)],
  [(32, .iload_n 1, 1, 0, 0, 0), (33, .invokevirtual 96, 3, 74, 1, 1), (36, .aload_n 2, 1, 0, 0, 0), (37, .iload 4, 2, 0, 0, 0), (39, .iaload, 1, 0, 0, 0), (40, .iadd, 1, 0, 0, 0), (41, .ireturn, 1, 0, 0, 0)]]
/-- WornSums$Findings.leastAt(LWornSums$Agreeing;[II)I -/
def pc_85 : List (List (Nat × smI)) := [[(0, .iconst (-1), 1, 1, 1, 0), (1, .istore_n 3, 1, 0, 0, 0), (2, .iconst 0, 1, 0, 0, 0), (3, .istore 4, 2, 0, 0, 0), (5, .iload 4, 2, 0, 0, 0), (7, .aload_n 0, 1, 0, 0, 0), (8, .getfield 64, 3, 0, 2, 0), (11, .if_icmp .ge 39, 3, 0, 0, 0), (14, .aload_n 0, 1, 0, 0, 0), (15, .iload 4, 2, 0, 0, 0)],
  [(17, .aload_n 1, 1, 0, 0, 0), (18, .iload_n 2, 1, 0, 0, 0), (19, .invokestatic 120, 3, 84, 4, 0), (22, .istore 5, 2, 0, 0, 0), (24, .iload 5, 2, 0, 0, 0), (26, .iconst (-1), 1, 1, 1, 0), (27, .if_icmp .eq 17, 3, 0, 0, 0), (30, .iload_n 3, 1, 0, 0, 0), (31, .iconst (-1), 1, 1, 1, 0)],
  [(32, .if_icmp .eq 9, 3, 0, 0, 0), (35, .iload 5, 2, 0, 0, 0), (37, .iload_n 3, 1, 0, 0, 0), (38, .if_icmp .ge 6, 3, 0, 0, 0), (41, .iload 5, 2, 0, 0, 0), (43, .istore_n 3, 1, 0, 0, 0), (44, .iinc 4 1, 3, 1, 0, 0), (47, .goto (-42), 3, 0, 0, 0)],
  [(50, .iload_n 3, 1, 0, 0, 0), (51, .ireturn, 1, 0, 0, 0)]]
/-- WornSums$Findings.fillLeastBySum(II)V -/
def pc_86 : List (List (Nat × smI)) := [[(0, .iconst 0, 1, 0, 0, 0), (1, .istore_n 3, 1, 0, 0, 0), (2, .iload_n 3, 1, 0, 0, 0), (3, .iload_n 1, 1, 0, 0, 0), (4, .if_icmp .gt 25, 3, 0, 0, 0), (7, .iload_n 3, 1, 0, 0, 0), (8, .bipush 6, 2, 6, 0, 0), (10, .if_icmp .gt 19, 3, 0, 0, 0), (13, .aload_n 0, 1, 0, 0, 0), (14, .getfield 23, 3, 1, 2, 1)],
  [(17, .iload_n 3, 1, 0, 0, 0), (18, .aaload, 1, 0, 0, 0), (19, .iconst (-1), 1, 1, 1, 0), (20, .invokestatic 106, 3, 82, 2, 0), (23, .iinc 3 1, 3, 1, 0, 0), (26, .goto (-24), 3, 0, 0, 0), (29, .iload_n 1, 1, 0, 0, 0), (30, .ifCond .lt 18, 3, 0, 0, 0)],
  [(33, .iload_n 1, 1, 0, 0, 0), (34, .bipush 6, 2, 6, 0, 0), (36, .if_icmp .gt 12, 3, 0, 0, 0), (39, .aload_n 0, 1, 0, 0, 0), (40, .getfield 23, 3, 1, 2, 1), (43, .iload_n 1, 1, 0, 0, 0), (44, .aaload, 1, 0, 0, 0), (45, .iconst 0, 1, 0, 0, 0), (46, .iconst 0, 1, 0, 0, 0), (47, .iastore, 1, 0, 0, 0)],
  [(48, .iconst 0, 1, 0, 0, 0), (49, .istore_n 3, 1, 0, 0, 0), (50, .iload_n 1, 1, 0, 0, 0), (51, .bipush 6, 2, 6, 0, 0), (53, .invokestatic 69, 3, 0, 0, 2), (56, .iconst 1, 1, 1, 0, 0), (57, .isub, 1, 0, 0, 0), (58, .istore 4, 2, 0, 0, 0), (60, .iload 4, 2, 0, 0, 0), (62, .ifCond .lt 78, 3, 0, 0, 0)],
  [(65, .iload_n 3, 1, 0, 0, 0), (66, .aload_n 0, 1, 0, 0, 0), (67, .getfield 11, 3, 1, 0, 1), (70, .iload 4, 2, 0, 0, 0), (72, .aaload, 1, 0, 0, 0), (73, .invokevirtual 112, 3, 83, 0, 1), (76, .iadd, 1, 0, 0, 0), (77, .iload_n 2, 1, 0, 0, 0), (78, .sipush 5994, 3, 5994, 0, 0)],
  [(81, .invokestatic 69, 3, 0, 0, 2), (84, .invokestatic 69, 3, 0, 0, 2), (87, .istore_n 3, 1, 0, 0, 0), (88, .iconst 0, 1, 0, 0, 0), (89, .istore 5, 2, 0, 0, 0), (91, .iload 5, 2, 0, 0, 0), (93, .iload_n 3, 1, 0, 0, 0), (94, .if_icmp .gt 40, 3, 0, 0, 0)],
  [(97, .aload_n 0, 1, 0, 0, 0), (98, .getfield 23, 3, 1, 2, 1), (101, .iload 4, 2, 0, 0, 0), (103, .aaload, 1, 0, 0, 0), (104, .iload 5, 2, 0, 0, 0), (106, .aload_n 0, 1, 0, 0, 0), (107, .getfield 11, 3, 1, 0, 1), (110, .iload 4, 2, 0, 0, 0)],
  [(112, .aaload, 1, 0, 0, 0), (113, .aload_n 0, 1, 0, 0, 0), (114, .getfield 23, 3, 1, 2, 1), (117, .iload 4, 2, 0, 0, 0), (119, .iconst 1, 1, 1, 0, 0), (120, .iadd, 1, 0, 0, 0), (121, .aaload, 1, 0, 0, 0), (122, .iload 5, 2, 0, 0, 0), (124, .invokestatic 116, 3, 85, 3, 0), (127, .iastore, 1, 0, 0, 0)],
  [(128, .iinc 5 1, 3, 1, 0, 0), (131, .goto (-40), 3, 0, 0, 0), (134, .iinc 4 (-1), 3, 1, 1, 0), (137, .goto (-77), 3, 0, 0, 0), (140, .return_, 1, 0, 0, 0)]]
/-- WornSums$Findings.lowestOfLeast(LWornSums$Agreeing;[I[II)I -/
def pc_87 : List (List (Nat × smI)) := [[(0, .iload_n 3, 1, 0, 0, 0), (1, .ifCond .lt 9, 3, 0, 0, 0), (4, .iload_n 3, 1, 0, 0, 0), (5, .aload_n 1, 1, 0, 0, 0), (6, .arraylength, 1, 0, 0, 0), (7, .if_icmp .lt 5, 3, 0, 0, 0), (10, .iconst 0, 1, 0, 0, 0), (11, .ireturn, 1, 0, 0, 0), (12, .iconst 0, 1, 0, 0, 0), (13, .istore 4, 2, 0, 0, 0), (15, .iload 4, 2, 0, 0, 0)],
  [(17, .aload_n 0, 1, 0, 0, 0), (18, .getfield 64, 3, 0, 2, 0), (21, .if_icmp .ge 40, 3, 0, 0, 0), (24, .aload_n 0, 1, 0, 0, 0), (25, .iload 4, 2, 0, 0, 0), (27, .aload_n 2, 1, 0, 0, 0), (28, .iload_n 3, 1, 0, 0, 0), (29, .invokestatic 120, 3, 84, 4, 0)],
  [(32, .istore 5, 2, 0, 0, 0), (34, .iload 5, 2, 0, 0, 0), (36, .iconst (-1), 1, 1, 1, 0), (37, .if_icmp .eq 18, 3, 0, 0, 0), (40, .iload 5, 2, 0, 0, 0), (42, .aload_n 1, 1, 0, 0, 0), (43, .iload_n 3, 1, 0, 0, 0), (44, .iaload, 1, 0, 0, 0), (45, .if_icmp .ne 10, 3, 0, 0, 0)],
  [(48, .aload_n 0, 1, 0, 0, 0), (49, .iload 4, 2, 0, 0, 0), (51, .invokevirtual 93, 3, 77, 1, 1), (54, .ireturn, 1, 0, 0, 0), (55, .iinc 4 1, 3, 1, 0, 0), (58, .goto (-43), 3, 0, 0, 0), (61, .iconst 0, 1, 0, 0, 0), (62, .ireturn, 1, 0, 0, 0)]]
/-- WornSums$Findings.findLeastOfTotal(II)V -/
def pc_88 : List (List (Nat × smI)) := [[(0, .iload_n 2, 1, 0, 0, 0), (1, .ifCond .lt 10, 3, 0, 0, 0), (4, .iload_n 2, 1, 0, 0, 0), (5, .sipush 5994, 3, 5994, 0, 0), (8, .if_icmp .le 4, 3, 0, 0, 0), (11, .return_, 1, 0, 0, 0), (12, .aload_n 0, 1, 0, 0, 0), (13, .iload_n 1, 1, 0, 0, 0), (14, .iload_n 2, 1, 0, 0, 0), (15, .invokevirtual 99, 3, 86, 2, 2)],
  [(18, .aload_n 0, 1, 0, 0, 0), (19, .getfield 23, 3, 1, 2, 1), (22, .iconst 0, 1, 0, 0, 0), (23, .aaload, 1, 0, 0, 0), (24, .iload_n 2, 1, 0, 0, 0), (25, .iaload, 1, 0, 0, 0), (26, .iconst (-1), 1, 1, 1, 0), (27, .if_icmp .ne 4, 3, 0, 0, 0), (30, .return_, 1, 0, 0, 0), (31, .aload_n 0, 1, 0, 0, 0)],
  [(32, .aload_n 0, 1, 0, 0, 0), (33, .getfield 23, 3, 1, 2, 1), (36, .iconst 0, 1, 0, 0, 0), (37, .aaload, 1, 0, 0, 0), (38, .iload_n 2, 1, 0, 0, 0), (39, .iaload, 1, 0, 0, 0), (40, .putfield 30, 3, 1, 4, 0), (43, .iload_n 2, 1, 0, 0, 0), (44, .istore_n 3, 1, 0, 0, 0), (45, .iconst 0, 1, 0, 0, 0), (46, .istore 4, 2, 0, 0, 0)],
  [(48, .iload 4, 2, 0, 0, 0), (50, .iload_n 1, 1, 0, 0, 0), (51, .if_icmp .ge 60, 3, 0, 0, 0), (54, .iload 4, 2, 0, 0, 0), (56, .bipush 6, 2, 6, 0, 0), (58, .if_icmp .ge 53, 3, 0, 0, 0), (61, .aload_n 0, 1, 0, 0, 0), (62, .getfield 26, 3, 1, 3, 1)],
  [(65, .iload 4, 2, 0, 0, 0), (67, .aload_n 0, 1, 0, 0, 0), (68, .getfield 11, 3, 1, 0, 1), (71, .iload 4, 2, 0, 0, 0), (73, .aaload, 1, 0, 0, 0), (74, .aload_n 0, 1, 0, 0, 0), (75, .getfield 23, 3, 1, 2, 1), (78, .iload 4, 2, 0, 0, 0)],
  [(80, .aaload, 1, 0, 0, 0), (81, .aload_n 0, 1, 0, 0, 0), (82, .getfield 23, 3, 1, 2, 1), (85, .iload 4, 2, 0, 0, 0), (87, .iconst 1, 1, 1, 0, 0), (88, .iadd, 1, 0, 0, 0), (89, .aaload, 1, 0, 0, 0), (90, .iload_n 3, 1, 0, 0, 0), (91, .invokestatic 102, 3, 87, 4, 0), (94, .iastore, 1, 0, 0, 0), (95, .iload_n 3, 1, 0, 0, 0)],
  [(96, .aload_n 0, 1, 0, 0, 0), (97, .getfield 26, 3, 1, 3, 1), (100, .iload 4, 2, 0, 0, 0), (102, .iaload, 1, 0, 0, 0), (103, .isub, 1, 0, 0, 0), (104, .istore_n 3, 1, 0, 0, 0), (105, .iinc 4 1, 3, 1, 0, 0), (108, .goto (-60), 3, 0, 0, 0), (111, .return_, 1, 0, 0, 0)]]
/-- WornSums$Findings.refreshLeast(LWornSums$Sheet;LWornSums$NumberWords;)V -/
def pc_89 : List (List (Nat × smI)) := [[(0, .aload_n 0, 1, 0, 0, 0), (1, .getfield 34, 3, 1, 5, 0), (4, .ifCond .eq 4, 3, 0, 0, 0), (7, .return_, 1, 0, 0, 0), (8, .aload_n 0, 1, 0, 0, 0), (9, .aload_n 1, 1, 0, 0, 0), (10, .aload_n 2, 1, 0, 0, 0), (11, .invokevirtual 65, 3, 68, 2, 2), (14, .aload_n 1, 1, 0, 0, 0), (15, .getfield 45, 3, 5, 2, 0)],
  [(18, .bipush 6, 2, 6, 0, 0), (20, .invokestatic 69, 3, 0, 0, 2), (23, .istore_n 3, 1, 0, 0, 0), (24, .aload_n 0, 1, 0, 0, 0), (25, .bipush (-9), 2, 9, 1, 0), (27, .putfield 30, 3, 1, 4, 0), (30, .aload_n 0, 1, 0, 0, 0), (31, .iload_n 3, 1, 0, 0, 0)],
  [(32, .invokevirtual 75, 3, 80, 1, 2), (35, .ifCond .ne 29, 3, 0, 0, 0), (38, .aload_n 1, 1, 0, 0, 0), (39, .getfield 79, 3, 5, 4, 0), (42, .bipush (-9), 2, 9, 1, 0), (44, .if_icmp .ne 11, 3, 0, 0, 0), (47, .aload_n 0, 1, 0, 0, 0)],
  [(48, .iload_n 3, 1, 0, 0, 0), (49, .invokevirtual 82, 3, 81, 1, 2), (52, .goto 12, 3, 0, 0, 0), (55, .aload_n 0, 1, 0, 0, 0), (56, .iload_n 3, 1, 0, 0, 0), (57, .aload_n 1, 1, 0, 0, 0), (58, .getfield 79, 3, 5, 4, 0), (61, .invokevirtual 86, 3, 88, 2, 2)],
  [(64, .aload_n 0, 1, 0, 0, 0), (65, .iconst 1, 1, 1, 0, 0), (66, .putfield 34, 3, 1, 5, 2), (69, .return_, 1, 0, 0, 0)]]
/-- WornSums$Findings.leastNumber(I)I -/
def pc_90 : List (List (Nat × smI)) := [[(0, .aload_n 0, 1, 0, 0, 0), (1, .getfield 30, 3, 1, 4, 0), (4, .bipush (-9), 2, 9, 1, 0), (6, .if_icmp .eq 17, 3, 0, 0, 0), (9, .iload_n 1, 1, 0, 0, 0), (10, .ifCond .lt 13, 3, 0, 0, 0), (13, .iload_n 1, 1, 0, 0, 0), (14, .bipush 6, 2, 6, 0, 0)],
  [(16, .if_icmp .ge 7, 3, 0, 0, 0), (19, .iconst 1, 1, 1, 0, 0), (20, .goto 4, 3, 0, 0, 0), (23, .iconst 0, 1, 0, 0, 0), (24, .istore_n 2, 1, 0, 0, 0), (25, .iload_n 2, 1, 0, 0, 0), (26, .ifCond .eq 12, 3, 0, 0, 0), (29, .aload_n 0, 1, 0, 0, 0), (30, .getfield 26, 3, 1, 3, 1)],
  [(33, .iload_n 1, 1, 0, 0, 0), (34, .iaload, 1, 0, 0, 0), (35, .goto 5, 3, 0, 0, 0), (38, .bipush (-9), 2, 9, 1, 0), (40, .ireturn, 1, 0, 0, 0)]]
/-- WornSums.least(I)I -/
def pc_91 : List (List (Nat × smI)) := [[(0, .iload_n 1, 1, 0, 0, 0), (1, .iconst (-1), 1, 1, 1, 0), (2, .if_icmp .eq 16, 3, 0, 0, 0), (5, .aload_n 0, 1, 0, 0, 0), (6, .getfield 19, 3, 7, 1, 1), (9, .iload_n 1, 1, 0, 0, 0), (10, .invokevirtual 78, 3, 48, 1, 6), (13, .ifCond .ne 5, 3, 0, 0, 0)],
  [(16, .iconst (-1), 1, 1, 1, 0), (17, .ireturn, 1, 0, 0, 0), (18, .aload_n 0, 1, 0, 0, 0), (19, .getfield 52, 3, 7, 6, 1), (22, .aload_n 0, 1, 0, 0, 0), (23, .getfield 19, 3, 7, 1, 1), (26, .aload_n 0, 1, 0, 0, 0), (27, .getfield 45, 3, 7, 5, 1), (30, .invokevirtual 167, 3, 89, 2, 2)],
  [(33, .iload_n 1, 1, 0, 0, 0), (34, .iconst (-1), 1, 1, 1, 0), (35, .if_icmp .ne 13, 3, 0, 0, 0), (38, .aload_n 0, 1, 0, 0, 0), (39, .getfield 52, 3, 7, 6, 1), (42, .getfield 171, 3, 1, 4, 0), (45, .goto 11, 3, 0, 0, 0)],
  [(48, .aload_n 0, 1, 0, 0, 0), (49, .getfield 52, 3, 7, 6, 1), (52, .iload_n 1, 1, 0, 0, 0), (53, .invokevirtual 174, 3, 90, 1, 2), (56, .ireturn, 1, 0, 0, 0)]]
/-- WornSums$History.slotOf(I)I -/
def pc_92 : List (List (Nat × smI)) := [[(0, .iload_n 0, 1, 0, 0, 0), (1, .bipush 8, 2, 8, 0, 0), (3, .invokestatic 42, 3, 106, 2, 0), (6, .ireturn, 1, 0, 0, 0)]]
/-- WornSums$Findings.isReached(I)Z -/
def pc_93 : List (List (Nat × smI)) := [[(0, .iload_n 1, 1, 0, 0, 0), (1, .ifCond .lt 23, 3, 0, 0, 0), (4, .iload_n 1, 1, 0, 0, 0), (5, .sipush 5994, 3, 5994, 0, 0), (8, .if_icmp .gt 16, 3, 0, 0, 0), (11, .aload_n 0, 1, 0, 0, 0), (12, .getfield 37, 3, 1, 6, 1), (15, .iload_n 1, 1, 0, 0, 0)],
  [(16, .baload, 1, 0, 0, 0), (17, .ifCond .eq 7, 3, 0, 0, 0), (20, .iconst 1, 1, 1, 0, 0), (21, .goto 4, 3, 0, 0, 0), (24, .iconst 0, 1, 0, 0, 0), (25, .ireturn, 1, 0, 0, 1)]]
/-- WornSums$Findings.isReachedBy(LWornSums$Agreeing;I)Z -/
def pc_94 : List (List (Nat × smI)) := [[(0, .iconst 0, 1, 0, 0, 0), (1, .istore_n 3, 1, 0, 0, 0), (2, .iload_n 3, 1, 0, 0, 0), (3, .aload_n 1, 1, 0, 0, 0), (4, .getfield 64, 3, 0, 2, 0), (7, .if_icmp .ge 25, 3, 0, 0, 0), (10, .aload_n 0, 1, 0, 0, 0), (11, .iload_n 2, 1, 0, 0, 0), (12, .aload_n 1, 1, 0, 0, 0), (13, .iload_n 3, 1, 0, 0, 0), (14, .invokevirtual 93, 3, 77, 1, 1)],
  [(17, .isub, 1, 0, 0, 0), (18, .invokevirtual 132, 3, 93, 1, 2), (21, .ifCond .eq 5, 3, 0, 0, 0), (24, .iconst 1, 1, 1, 0, 0), (25, .ireturn, 1, 0, 0, 1), (26, .iinc 3 1, 3, 1, 0, 0), (29, .goto (-27), 3, 0, 0, 0)],
  [(32, .iconst 0, 1, 0, 0, 0), (33, .ireturn, 1, 0, 0, 1)]]
/-- WornSums$Findings.reachOn(LWornSums$Agreeing;I)V -/
def pc_95 : List (List (Nat × smI)) := [[(0, .iload_n 2, 1, 0, 0, 0), (1, .sipush 5994, 3, 5994, 0, 0), (4, .invokestatic 69, 3, 0, 0, 2), (7, .istore_n 3, 1, 0, 0, 0), (8, .iload_n 3, 1, 0, 0, 0), (9, .ifCond .lt 21, 3, 0, 0, 0), (12, .aload_n 0, 1, 0, 0, 0), (13, .getfield 37, 3, 1, 6, 1)],
  [(16, .iload_n 3, 1, 0, 0, 0), (17, .aload_n 0, 1, 0, 0, 0), (18, .aload_n 1, 1, 0, 0, 0), (19, .iload_n 3, 1, 0, 0, 0), (20, .invokevirtual 140, 3, 94, 2, 2), (23, .bastore, 1, 0, 0, 0), (24, .iinc 3 (-1), 3, 1, 1, 0), (27, .goto (-19), 3, 0, 0, 0), (30, .return_, 1, 0, 0, 0)]]
/-- WornSums$Findings.reachWithout(III)V -/
def pc_96 : List (List (Nat × smI)) := [[(0, .iconst 0, 1, 0, 0, 0), (1, .istore 4, 2, 0, 0, 0), (3, .iload 4, 2, 0, 0, 0), (5, .aload_n 0, 1, 0, 0, 0), (6, .getfield 37, 3, 1, 6, 1), (9, .arraylength, 1, 0, 0, 0), (10, .if_icmp .ge 26, 3, 0, 0, 0), (13, .aload_n 0, 1, 0, 0, 0), (14, .getfield 37, 3, 1, 6, 1)],
  [(17, .iload 4, 2, 0, 0, 0), (19, .iload 4, 2, 0, 0, 0), (21, .ifCond .ne 7, 3, 0, 0, 0), (24, .iconst 1, 1, 1, 0, 0), (25, .goto 4, 3, 0, 0, 0), (28, .iconst 0, 1, 0, 0, 0), (29, .bastore, 1, 0, 0, 0), (30, .iinc 4 1, 3, 1, 0, 0)],
  [(33, .goto (-30), 3, 0, 0, 0), (36, .iconst 0, 1, 0, 0, 0), (37, .istore 4, 2, 0, 0, 0), (39, .iconst 0, 1, 0, 0, 0), (40, .istore 5, 2, 0, 0, 0), (42, .iload 5, 2, 0, 0, 0), (44, .iload_n 2, 1, 0, 0, 0), (45, .if_icmp .ge 60, 3, 0, 0, 0)],
  [(48, .iload 5, 2, 0, 0, 0), (50, .bipush 6, 2, 6, 0, 0), (52, .if_icmp .ge 53, 3, 0, 0, 0), (55, .iload 5, 2, 0, 0, 0), (57, .iload_n 1, 1, 0, 0, 0), (58, .if_icmp .eq 41, 3, 0, 0, 0), (61, .iload 4, 2, 0, 0, 0), (63, .aload_n 0, 1, 0, 0, 0)],
  [(64, .getfield 11, 3, 1, 0, 1), (67, .iload 5, 2, 0, 0, 0), (69, .aaload, 1, 0, 0, 0), (70, .invokevirtual 112, 3, 83, 0, 1), (73, .iadd, 1, 0, 0, 0), (74, .iload_n 3, 1, 0, 0, 0), (75, .sipush 5994, 3, 5994, 0, 0), (78, .invokestatic 69, 3, 0, 0, 2)],
  [(81, .invokestatic 69, 3, 0, 0, 2), (84, .istore 4, 2, 0, 0, 0), (86, .aload_n 0, 1, 0, 0, 0), (87, .aload_n 0, 1, 0, 0, 0), (88, .getfield 11, 3, 1, 0, 1), (91, .iload 5, 2, 0, 0, 0), (93, .aaload, 1, 0, 0, 0), (94, .iload 4, 2, 0, 0, 0)],
  [(96, .invokevirtual 136, 3, 95, 2, 2), (99, .iinc 5 1, 3, 1, 0, 0), (102, .goto (-60), 3, 0, 0, 0), (105, .return_, 1, 0, 0, 0)]]
/-- WornSums$Findings.sureNumber(III)I -/
def pc_97 : List (List (Nat × smI)) := [[(0, .aload_n 0, 1, 0, 0, 0), (1, .iload_n 2, 1, 0, 0, 0), (2, .invokevirtual 75, 3, 80, 1, 2), (5, .ifCond .le 6, 3, 0, 0, 0), (8, .bipush (-9), 2, 9, 1, 0), (10, .ireturn, 1, 0, 0, 0), (11, .aload_n 0, 1, 0, 0, 0), (12, .iload_n 1, 1, 0, 0, 0), (13, .invokevirtual 124, 3, 69, 1, 2)],
  [(16, .astore 4, 2, 0, 0, 0), (18, .iload_n 3, 1, 0, 0, 0), (19, .bipush (-9), 2, 9, 1, 0), (21, .if_icmp .ne 24, 3, 0, 0, 0), (24, .aload 4, 2, 0, 0, 0), (26, .getfield 64, 3, 0, 2, 0), (29, .iconst 1, 1, 1, 0, 0), (30, .if_icmp .ne 12, 3, 0, 0, 0)],
  [(33, .aload 4, 2, 0, 0, 0), (35, .iconst 0, 1, 0, 0, 0), (36, .invokevirtual 93, 3, 77, 1, 1), (39, .goto 5, 3, 0, 0, 0), (42, .bipush (-9), 2, 9, 1, 0), (44, .ireturn, 1, 0, 0, 0), (45, .aload_n 0, 1, 0, 0, 0), (46, .iload_n 1, 1, 0, 0, 0), (47, .iload_n 2, 1, 0, 0, 0)],
  [(48, .iload_n 3, 1, 0, 0, 0), (49, .invokevirtual 128, 3, 96, 3, 2), (52, .bipush (-9), 2, 9, 1, 0), (54, .istore 5, 2, 0, 0, 0), (56, .iconst 0, 1, 0, 0, 0), (57, .istore 6, 2, 0, 0, 0), (59, .iload 6, 2, 0, 0, 0), (61, .aload 4, 2, 0, 0, 0), (63, .getfield 64, 3, 0, 2, 0)],
  [(66, .if_icmp .ge 44, 3, 0, 0, 0), (69, .aload_n 0, 1, 0, 0, 0), (70, .iload_n 3, 1, 0, 0, 0), (71, .aload 4, 2, 0, 0, 0), (73, .iload 6, 2, 0, 0, 0), (75, .invokevirtual 93, 3, 77, 1, 1), (78, .isub, 1, 0, 0, 0), (79, .invokevirtual 132, 3, 93, 1, 2)],
  [(82, .ifCond .eq 22, 3, 0, 0, 0), (85, .iload 5, 2, 0, 0, 0), (87, .bipush (-9), 2, 9, 1, 0), (89, .if_icmp .eq 6, 3, 0, 0, 0), (92, .bipush (-9), 2, 9, 1, 0), (94, .ireturn, 1, 0, 0, 0), (95, .aload 4, 2, 0, 0, 0)],
  [(97, .iload 6, 2, 0, 0, 0), (99, .invokevirtual 93, 3, 77, 1, 1), (102, .istore 5, 2, 0, 0, 0), (104, .iinc 6 1, 3, 1, 0, 0), (107, .goto (-48), 3, 0, 0, 0), (110, .iload 5, 2, 0, 0, 0)],
  [(112, .ireturn, 1, 0, 0, 0)]]
/-- WornSums.sure(I)I -/
def pc_98 : List (List (Nat × smI)) := [[(0, .aload_n 0, 1, 0, 0, 0), (1, .getfield 19, 3, 7, 1, 1), (4, .iload_n 1, 1, 0, 0, 0), (5, .invokevirtual 78, 3, 48, 1, 6), (8, .ifCond .ne 5, 3, 0, 0, 0), (11, .iconst (-1), 1, 1, 1, 0), (12, .ireturn, 1, 0, 0, 0), (13, .aload_n 0, 1, 0, 0, 0), (14, .getfield 52, 3, 7, 6, 1)],
  [(17, .aload_n 0, 1, 0, 0, 0), (18, .getfield 19, 3, 7, 1, 1), (21, .aload_n 0, 1, 0, 0, 0), (22, .getfield 45, 3, 7, 5, 1), (25, .invokevirtual 177, 3, 68, 2, 2), (28, .aload_n 0, 1, 0, 0, 0), (29, .getfield 52, 3, 7, 6, 1)],
  [(32, .iload_n 1, 1, 0, 0, 0), (33, .aload_n 0, 1, 0, 0, 0), (34, .getfield 19, 3, 7, 1, 1), (37, .getfield 64, 3, 5, 2, 0), (40, .aload_n 0, 1, 0, 0, 0), (41, .getfield 19, 3, 7, 1, 1), (44, .getfield 114, 3, 5, 4, 0), (47, .invokevirtual 180, 3, 97, 3, 2)],
  [(50, .ireturn, 1, 0, 0, 0)]]
/-- WornSums$Findings.mostOfOneLetter(LWornSums$Agreeing;ILWornSums$NumberWords;)I -/
def pc_99 : List (List (Nat × smI)) := [[(0, .aload_n 0, 1, 0, 0, 0), (1, .getfield 41, 3, 1, 7, 1), (4, .iconst 0, 1, 0, 0, 0), (5, .invokestatic 106, 3, 82, 2, 0), (8, .iconst 0, 1, 0, 0, 0), (9, .istore 4, 2, 0, 0, 0), (11, .iconst 0, 1, 0, 0, 0), (12, .istore 5, 2, 0, 0, 0), (14, .iload 5, 2, 0, 0, 0)],
  [(16, .aload_n 1, 1, 0, 0, 0), (17, .getfield 64, 3, 0, 2, 0), (20, .if_icmp .ge 62, 3, 0, 0, 0), (23, .aload_n 3, 1, 0, 0, 0), (24, .aload_n 1, 1, 0, 0, 0), (25, .iload 5, 2, 0, 0, 0), (27, .invokevirtual 93, 3, 77, 1, 1), (30, .iload_n 2, 1, 0, 0, 0), (31, .invokevirtual 157, 3, 17, 2, 4)],
  [(34, .bipush 97, 2, 97, 0, 0), (36, .isub, 1, 0, 0, 0), (37, .istore 6, 2, 0, 0, 0), (39, .iload 6, 2, 0, 0, 0), (41, .ifCond .lt 35, 3, 0, 0, 0), (44, .iload 6, 2, 0, 0, 0), (46, .bipush 26, 2, 26, 0, 0)],
  [(48, .if_icmp .ge 28, 3, 0, 0, 0), (51, .aload_n 0, 1, 0, 0, 0), (52, .getfield 41, 3, 1, 7, 1), (55, .iload 6, 2, 0, 0, 0), (57, .dup2, 1, 0, 0, 0), (58, .iaload, 1, 0, 0, 0), (59, .iconst 1, 1, 1, 0, 0), (60, .iadd, 1, 0, 0, 0), (61, .iastore, 1, 0, 0, 0), (62, .iload 4, 2, 0, 0, 0)],
  [(64, .aload_n 0, 1, 0, 0, 0), (65, .getfield 41, 3, 1, 7, 1), (68, .iload 6, 2, 0, 0, 0), (70, .iaload, 1, 0, 0, 0), (71, .invokestatic 161, 3, 0, 0, 1), (74, .istore 4, 2, 0, 0, 0), (76, .iinc 5 1, 3, 1, 0, 0), (79, .goto (-65), 3, 0, 0, 0)],
  [(82, .iload 4, 2, 0, 0, 0), (84, .ireturn, 1, 0, 0, 0)]]
/-- WornSums$Findings.bestPlace(LWornSums$Row;LWornSums$Agreeing;LWornSums$NumberWords;)I -/
def pc_100 : List (List (Nat × smI)) := [[(0, .bipush (-9), 2, 9, 1, 0), (2, .istore 4, 2, 0, 0, 0), (4, .iconst 0, 1, 0, 0, 0), (5, .istore 5, 2, 0, 0, 0), (7, .iconst 0, 1, 0, 0, 0), (8, .istore 6, 2, 0, 0, 0), (10, .iload 6, 2, 0, 0, 0), (12, .aload_n 1, 1, 0, 0, 0), (13, .getfield 144, 3, 4, 1, 0)],
  [(16, .if_icmp .ge 52, 3, 0, 0, 0), (19, .aload_n 1, 1, 0, 0, 0), (20, .iload 6, 2, 0, 0, 0), (22, .invokevirtual 149, 3, 37, 1, 5), (25, .bipush 63, 2, 63, 0, 0), (27, .if_icmp .ne 35, 3, 0, 0, 0), (30, .aload_n 0, 1, 0, 0, 0), (31, .aload_n 2, 1, 0, 0, 0)],
  [(32, .iload 6, 2, 0, 0, 0), (34, .aload_n 3, 1, 0, 0, 0), (35, .invokevirtual 153, 3, 99, 3, 2), (38, .istore 7, 2, 0, 0, 0), (40, .iload 4, 2, 0, 0, 0), (42, .bipush (-9), 2, 9, 1, 0), (44, .if_icmp .eq 10, 3, 0, 0, 0), (47, .iload 7, 2, 0, 0, 0)],
  [(49, .iload 5, 2, 0, 0, 0), (51, .if_icmp .ge 11, 3, 0, 0, 0), (54, .iload 6, 2, 0, 0, 0), (56, .istore 4, 2, 0, 0, 0), (58, .iload 7, 2, 0, 0, 0), (60, .istore 5, 2, 0, 0, 0), (62, .iinc 6 1, 3, 1, 0, 0)],
  [(65, .goto (-55), 3, 0, 0, 0), (68, .iload 4, 2, 0, 0, 0), (70, .ireturn, 1, 0, 0, 0)]]
/-- WornSums.look(I)I -/
def pc_101 : List (List (Nat × smI)) := [[(0, .aload_n 0, 1, 0, 0, 0), (1, .getfield 19, 3, 7, 1, 1), (4, .iload_n 1, 1, 0, 0, 0), (5, .iconst 0, 1, 0, 0, 0), (6, .invokevirtual 86, 3, 51, 2, 6), (9, .astore_n 2, 1, 0, 0, 0), (10, .aload_n 2, 1, 0, 0, 0), (11, .ifnonnull 5, 3, 0, 0, 0), (14, .iconst (-1), 1, 1, 1, 0), (15, .ireturn, 1, 0, 0, 0)],
  [(16, .aload_n 0, 1, 0, 0, 0), (17, .iload_n 1, 1, 0, 0, 0), (18, .invokevirtual 129, 3, 70, 1, 8), (21, .astore_n 3, 1, 0, 0, 0), (22, .aload_n 3, 1, 0, 0, 0), (23, .getfield 141, 3, 0, 2, 0), (26, .iconst 1, 1, 1, 0, 0), (27, .if_icmp .gt 8, 3, 0, 0, 0), (30, .bipush (-9), 2, 9, 1, 0)],
  [(32, .goto 16, 3, 0, 0, 0), (35, .aload_n 0, 1, 0, 0, 0), (36, .getfield 52, 3, 7, 6, 1), (39, .aload_n 2, 1, 0, 0, 0), (40, .aload_n 3, 1, 0, 0, 0), (41, .aload_n 0, 1, 0, 0, 0), (42, .getfield 45, 3, 7, 5, 1), (45, .invokevirtual 184, 3, 100, 3, 2)],
  [(48, .ireturn, 1, 0, 0, 0)]]
/-- WornSums.keep(I)I -/
def pc_102 : List (List (Nat × smI)) := [[(0, .iload_n 1, 1, 0, 0, 0), (1, .ifCond .lt 8, 3, 0, 0, 0), (4, .iload_n 1, 1, 0, 0, 0), (5, .iconst 2, 1, 2, 0, 0), (6, .if_icmp .lt 5, 3, 0, 0, 0), (9, .iconst (-1), 1, 1, 1, 0), (10, .ireturn, 1, 0, 0, 0), (11, .aload_n 0, 1, 0, 0, 0), (12, .getfield 34, 3, 7, 3, 1), (15, .iload_n 1, 1, 0, 0, 0)],
  [(16, .aaload, 1, 0, 0, 0), (17, .aload_n 0, 1, 0, 0, 0), (18, .getfield 19, 3, 7, 1, 1), (21, .invokevirtual 188, 3, 40, 1, 6), (24, .aload_n 0, 1, 0, 0, 0), (25, .getfield 38, 3, 7, 4, 1), (28, .iload_n 1, 1, 0, 0, 0), (29, .iconst 1, 1, 1, 0, 0), (30, .bastore, 1, 0, 0, 0), (31, .aload_n 0, 1, 0, 0, 0)],
  [(32, .getfield 19, 3, 7, 1, 1), (35, .getfield 64, 3, 5, 2, 0), (38, .ireturn, 1, 0, 0, 0)]]
/-- WornSums.back(I)I -/
def pc_103 : List (List (Nat × smI)) := [[(0, .iload_n 1, 1, 0, 0, 0), (1, .ifCond .lt 8, 3, 0, 0, 0), (4, .iload_n 1, 1, 0, 0, 0), (5, .iconst 2, 1, 2, 0, 0), (6, .if_icmp .lt 5, 3, 0, 0, 0), (9, .iconst (-1), 1, 1, 1, 0), (10, .ireturn, 1, 0, 0, 0), (11, .aload_n 0, 1, 0, 0, 0), (12, .getfield 38, 3, 7, 4, 1), (15, .iload_n 1, 1, 0, 0, 0)],
  [(16, .baload, 1, 0, 0, 0), (17, .ifCond .ne 6, 3, 0, 0, 0), (20, .bipush (-2), 2, 2, 1, 0), (22, .ireturn, 1, 0, 0, 0), (23, .aload_n 0, 1, 0, 0, 0), (24, .getfield 19, 3, 7, 1, 1), (27, .aload_n 0, 1, 0, 0, 0), (28, .getfield 34, 3, 7, 3, 1), (31, .iload_n 1, 1, 0, 0, 0)],
  [(32, .aaload, 1, 0, 0, 0), (33, .invokevirtual 188, 3, 40, 1, 6), (36, .aload_n 0, 1, 0, 0, 0), (37, .getfield 26, 3, 7, 2, 1), (40, .iconst 0, 1, 0, 0, 0), (41, .putfield 117, 3, 2, 2, 0), (44, .aload_n 0, 1, 0, 0, 0), (45, .getfield 52, 3, 7, 6, 1)],
  [(48, .invokevirtual 122, 3, 42, 0, 2), (51, .aload_n 0, 1, 0, 0, 0), (52, .getfield 19, 3, 7, 1, 1), (55, .getfield 64, 3, 5, 2, 0), (58, .ireturn, 1, 0, 0, 0)]]
/-- WornSums$Sheet.wornInAll()I -/
def pc_104 : List (List (Nat × smI)) := [[(0, .iconst 0, 1, 0, 0, 0), (1, .istore_n 1, 1, 0, 0, 0), (2, .iconst 0, 1, 0, 0, 0), (3, .istore_n 2, 1, 0, 0, 0), (4, .iload_n 2, 1, 0, 0, 0), (5, .aload_n 0, 1, 0, 0, 0), (6, .getfield 22, 3, 5, 2, 0), (9, .if_icmp .ge 17, 3, 0, 0, 0), (12, .iload_n 1, 1, 0, 0, 0), (13, .aload_n 0, 1, 0, 0, 0), (14, .iload_n 2, 1, 0, 0, 0), (15, .invokevirtual 52, 3, 55, 1, 6)],
  [(18, .iadd, 1, 0, 0, 0), (19, .istore_n 1, 1, 0, 0, 0), (20, .iinc 2 1, 3, 1, 0, 0), (23, .goto (-19), 3, 0, 0, 0), (26, .iload_n 1, 1, 0, 0, 0), (27, .ireturn, 1, 0, 0, 0)]]
/-- WornSums.count(I)I -/
def pc_105 : List (List (Nat × smI)) := [[(0, .iload_n 1, 1, 0, 0, 0), (1, .tableswitch 121 0 6 #[43, 51, 81, 89, 97, 105, 113], 43, 0, 0, 0)],
  [],
  [(44, .aload_n 0, 1, 0, 0, 0), (45, .getfield 19, 3, 7, 1, 1)],
  [(48, .getfield 64, 3, 5, 2, 0), (51, .ireturn, 1, 0, 0, 0), (52, .aload_n 0, 1, 0, 0, 0), (53, .getfield 52, 3, 7, 6, 1), (56, .aload_n 0, 1, 0, 0, 0), (57, .getfield 19, 3, 7, 1, 1), (60, .aload_n 0, 1, 0, 0, 0), (61, .getfield 45, 3, 7, 5, 1)],
  [(64, .invokevirtual 177, 3, 68, 2, 2), (67, .aload_n 0, 1, 0, 0, 0), (68, .getfield 52, 3, 7, 6, 1), (71, .aload_n 0, 1, 0, 0, 0), (72, .getfield 19, 3, 7, 1, 1), (75, .getfield 64, 3, 5, 2, 0), (78, .invokevirtual 191, 3, 80, 1, 2)],
  [(81, .ireturn, 1, 0, 0, 0), (82, .aload_n 0, 1, 0, 0, 0), (83, .getfield 19, 3, 7, 1, 1), (86, .getfield 111, 3, 5, 3, 0), (89, .ireturn, 1, 0, 0, 0), (90, .aload_n 0, 1, 0, 0, 0), (91, .getfield 19, 3, 7, 1, 1), (94, .getfield 114, 3, 5, 4, 0)],
  [(97, .ireturn, 1, 0, 0, 0), (98, .aload_n 0, 1, 0, 0, 0), (99, .getfield 19, 3, 7, 1, 1), (102, .invokevirtual 194, 3, 104, 0, 6), (105, .ireturn, 1, 0, 0, 0), (106, .aload_n 0, 1, 0, 0, 0), (107, .getfield 12, 3, 7, 0, 1), (110, .getfield 60, 3, 6, 1, 0)],
  [(113, .ireturn, 1, 0, 0, 0), (114, .aload_n 0, 1, 0, 0, 0), (115, .getfield 26, 3, 7, 2, 1), (118, .getfield 117, 3, 2, 2, 0), (121, .ireturn, 1, 0, 0, 0), (122, .iconst (-1), 1, 1, 1, 0), (123, .ireturn, 1, 0, 0, 0)]]
/-- java/lang/Math.floorMod(II)I -/
def pc_106 : List (List (Nat × smI)) := [[(0, .iload_n 0, 1, 0, 0, 0), (1, .iload_n 1, 1, 0, 0, 0), (2, .irem, 1, 0, 0, 0), (3, .istore_n 2, 1, 0, 0, 0), (4, .iload_n 0, 1, 0, 0, 0), (5, .iload_n 1, 1, 0, 0, 0), (6, .ixor, 1, 0, 0, 0), (7, .ifCond .ge 11, 3, 0, 0, 0), (10, .iload_n 2, 1, 0, 0, 0), (11, .ifCond .eq 7, 3, 0, 0, 0), (14, .iload_n 2, 1, 0, 0, 0), (15, .iload_n 1, 1, 0, 0, 0)],
  [(16, .iadd, 1, 0, 0, 0), (17, .ireturn, 1, 0, 0, 0), (18, .iload_n 2, 1, 0, 0, 0), (19, .ireturn, 1, 0, 0, 0)]]
/-- WornSumsLaw.cell([II)I -/
def pc_107 : List (List (Nat × smI)) := [[(0, .iload_n 1, 1, 0, 0, 0), (1, .aload_n 0, 1, 0, 0, 0), (2, .arraylength, 1, 0, 0, 0), (3, .if_icmp .ge 9, 3, 0, 0, 0), (6, .aload_n 0, 1, 0, 0, 0), (7, .iload_n 1, 1, 0, 0, 0), (8, .iaload, 1, 0, 0, 0), (9, .goto 15, 3, 0, 0, 0), (12, .ldc 7, 2, 625341585, 0, 0), (14, .iload_n 1, 1, 0, 0, 0), (15, .sipush 631, 3, 631, 0, 0)],
  [(18, .iadd, 1, 0, 0, 0), (19, .imul, 1, 0, 0, 0), (20, .sipush 463, 3, 463, 0, 0), (23, .iadd, 1, 0, 0, 0), (24, .ireturn, 1, 0, 0, 0)]]
/-- WornSumsLaw.low(II)I -/
def pc_108 : List (List (Nat × smI)) := [[(0, .iload_n 0, 1, 0, 0, 0), (1, .ldc 8, 2, 2147483647, 0, 0), (3, .iand, 1, 0, 0, 0), (4, .iload_n 1, 1, 0, 0, 0), (5, .irem, 1, 0, 0, 0), (6, .ireturn, 1, 0, 0, 0)]]
/-- WornSumsLaw.whole(LWornSums;)J -/
def pc_109 : List (List (Nat × smI)) := [[(0, .ldc2_w 9, 3, 83, 0, 0), (3, .lstore_n 1, 1, 0, 0, 0), (4, .iconst 0, 1, 0, 0, 0), (5, .istore_n 3, 1, 0, 0, 0), (6, .iload_n 3, 1, 0, 0, 0), (7, .iconst 5, 1, 5, 0, 0), (8, .if_icmp .ge 22, 3, 0, 0, 0), (11, .ldc2_w 11, 3, 31, 0, 0), (14, .lload_n 1, 1, 0, 0, 0), (15, .lmul, 1, 0, 0, 0)],
  [(16, .aload_n 0, 1, 0, 0, 0), (17, .iload_n 3, 1, 0, 0, 0), (18, .invokevirtual 13, 3, 105, 1, 8), (21, .i2l, 1, 0, 0, 0), (22, .ladd, 1, 0, 0, 0), (23, .lstore_n 1, 1, 0, 0, 0), (24, .iinc 3 1, 3, 1, 0, 0), (27, .goto (-21), 3, 0, 0, 0), (30, .iconst 0, 1, 0, 0, 0), (31, .istore_n 3, 1, 0, 0, 0)],
  [(32, .iload_n 3, 1, 0, 0, 0), (33, .aload_n 0, 1, 0, 0, 0), (34, .iconst 0, 1, 0, 0, 0), (35, .invokevirtual 13, 3, 105, 1, 8), (38, .if_icmp .ge 76, 3, 0, 0, 0), (41, .iconst 0, 1, 0, 0, 0), (42, .istore 4, 2, 0, 0, 0), (44, .iload 4, 2, 0, 0, 0), (46, .iconst 2, 1, 2, 0, 0), (47, .if_icmp .ge 61, 3, 0, 0, 0)],
  [(50, .aload_n 0, 1, 0, 0, 0), (51, .iload_n 3, 1, 0, 0, 0), (52, .iload 4, 2, 0, 0, 0), (54, .invokevirtual 19, 3, 71, 2, 8), (57, .istore 5, 2, 0, 0, 0), (59, .ldc2_w 11, 3, 31, 0, 0), (62, .lload_n 1, 1, 0, 0, 0), (63, .lmul, 1, 0, 0, 0)],
  [(64, .iload 5, 2, 0, 0, 0), (66, .i2l, 1, 0, 0, 0), (67, .ladd, 1, 0, 0, 0), (68, .lstore_n 1, 1, 0, 0, 0), (69, .iconst 0, 1, 0, 0, 0), (70, .istore 6, 2, 0, 0, 0), (72, .iload 6, 2, 0, 0, 0), (74, .iload 5, 2, 0, 0, 0), (76, .if_icmp .ge 26, 3, 0, 0, 0), (79, .ldc2_w 11, 3, 31, 0, 0)],
  [(82, .lload_n 1, 1, 0, 0, 0), (83, .lmul, 1, 0, 0, 0), (84, .aload_n 0, 1, 0, 0, 0), (85, .iload_n 3, 1, 0, 0, 0), (86, .iload 4, 2, 0, 0, 0), (88, .iload 6, 2, 0, 0, 0), (90, .invokevirtual 23, 3, 72, 3, 8), (93, .i2l, 1, 0, 0, 0), (94, .ladd, 1, 0, 0, 0), (95, .lstore_n 1, 1, 0, 0, 0)],
  [(96, .iinc 6 1, 3, 1, 0, 0), (99, .goto (-27), 3, 0, 0, 0), (102, .iinc 4 1, 3, 1, 0, 0), (105, .goto (-61), 3, 0, 0, 0), (108, .iinc 3 1, 3, 1, 0, 0), (111, .goto (-79), 3, 0, 0, 0)],
  [(114, .lload_n 1, 1, 0, 0, 0), (115, .lreturn, 1, 0, 0, 0)]]
/-- WornSumsLaw.entries(LWornSums;)Z -/
def pc_110 : List (List (Nat × smI)) := [[(0, .iconst 0, 1, 0, 0, 0), (1, .istore_n 1, 1, 0, 0, 0), (2, .iconst 0, 1, 0, 0, 0), (3, .istore_n 2, 1, 0, 0, 0), (4, .iconst 0, 1, 0, 0, 0), (5, .istore_n 3, 1, 0, 0, 0), (6, .iload_n 3, 1, 0, 0, 0), (7, .aload_n 0, 1, 0, 0, 0), (8, .iconst 0, 1, 0, 0, 0), (9, .invokevirtual 13, 3, 105, 1, 8), (12, .if_icmp .ge 236, 3, 0, 0, 0), (15, .aload_n 0, 1, 0, 0, 0)],
  [(16, .iload_n 3, 1, 0, 0, 0), (17, .iconst 5, 1, 5, 0, 0), (18, .invokevirtual 19, 3, 71, 2, 8), (21, .istore 4, 2, 0, 0, 0), (23, .iconst (-1), 1, 1, 1, 0), (24, .istore 5, 2, 0, 0, 0), (26, .iconst (-1), 1, 1, 1, 0), (27, .istore 6, 2, 0, 0, 0), (29, .iconst 0, 1, 0, 0, 0), (30, .istore 7, 2, 0, 0, 0)],
  [(32, .iload 7, 2, 0, 0, 0), (34, .iload 4, 2, 0, 0, 0), (36, .if_icmp .ge 114, 3, 0, 0, 0), (39, .aload_n 0, 1, 0, 0, 0), (40, .iload_n 3, 1, 0, 0, 0), (41, .iload 7, 2, 0, 0, 0), (43, .iconst 0, 1, 0, 0, 0), (44, .invokevirtual 27, 3, 78, 3, 8), (47, .istore 8, 2, 0, 0, 0)],
  [(49, .aload_n 0, 1, 0, 0, 0), (50, .iload_n 3, 1, 0, 0, 0), (51, .iload 7, 2, 0, 0, 0), (53, .iconst 1, 1, 1, 0, 0), (54, .invokevirtual 27, 3, 78, 3, 8), (57, .istore 9, 2, 0, 0, 0), (59, .iload 9, 2, 0, 0, 0), (61, .iload 5, 2, 0, 0, 0), (63, .if_icmp .gt 17, 3, 0, 0, 0)],
  [(66, .iload 9, 2, 0, 0, 0), (68, .iload 5, 2, 0, 0, 0), (70, .if_icmp .ne 14, 3, 0, 0, 0), (73, .iload 8, 2, 0, 0, 0), (75, .iload 6, 2, 0, 0, 0), (77, .if_icmp .le 7, 3, 0, 0, 0)],
  [(80, .iconst 1, 1, 1, 0, 0), (81, .goto 4, 3, 0, 0, 0), (84, .iconst 0, 1, 0, 0, 0), (85, .istore 10, 2, 0, 0, 0), (87, .iload 10, 2, 0, 0, 0), (89, .ifCond .eq 45, 3, 0, 0, 0), (92, .iload 8, 2, 0, 0, 0), (94, .ifCond .lt 40, 3, 0, 0, 0)],
  [(97, .iload 8, 2, 0, 0, 0), (99, .sipush 999, 3, 999, 0, 0), (102, .if_icmp .gt 32, 3, 0, 0, 0), (105, .iload 7, 2, 0, 0, 0), (107, .bipush 12, 2, 12, 0, 0), (109, .if_icmp .ge 27, 3, 0, 0, 0)],
  [(112, .iload 9, 2, 0, 0, 0), (114, .aload_n 0, 1, 0, 0, 0), (115, .iload_n 3, 1, 0, 0, 0), (116, .iload 8, 2, 0, 0, 0), (118, .iconst 0, 1, 0, 0, 0), (119, .invokevirtual 30, 3, 73, 3, 8), (122, .aload_n 0, 1, 0, 0, 0), (123, .iload_n 3, 1, 0, 0, 0), (124, .iload 8, 2, 0, 0, 0), (126, .iconst 1, 1, 1, 0, 0), (127, .invokevirtual 30, 3, 73, 3, 8)],
  [(130, .iadd, 1, 0, 0, 0), (131, .if_icmp .eq 5, 3, 0, 0, 0), (134, .iconst 0, 1, 0, 0, 0), (135, .ireturn, 1, 0, 0, 1), (136, .iload 9, 2, 0, 0, 0), (138, .istore 5, 2, 0, 0, 0), (140, .iload 8, 2, 0, 0, 0), (142, .istore 6, 2, 0, 0, 0)],
  [(144, .iinc 7 1, 3, 1, 0, 0), (147, .goto (-115), 3, 0, 0, 0), (150, .aload_n 0, 1, 0, 0, 0), (151, .iload_n 3, 1, 0, 0, 0), (152, .invokevirtual 33, 3, 101, 1, 8), (155, .istore 7, 2, 0, 0, 0), (157, .aload_n 0, 1, 0, 0, 0), (158, .iload_n 3, 1, 0, 0, 0), (159, .iload 4, 2, 0, 0, 0)],
  [(161, .iconst 0, 1, 0, 0, 0), (162, .invokevirtual 27, 3, 78, 3, 8), (165, .bipush (-9), 2, 9, 1, 0), (167, .if_icmp .ne 51, 3, 0, 0, 0), (170, .iload 4, 2, 0, 0, 0), (172, .aload_n 0, 1, 0, 0, 0), (173, .iload_n 3, 1, 0, 0, 0), (174, .iconst 3, 1, 3, 0, 0), (175, .invokevirtual 19, 3, 71, 2, 8)],
  [(178, .if_icmp .gt 40, 3, 0, 0, 0), (181, .iload 4, 2, 0, 0, 0), (183, .aload_n 0, 1, 0, 0, 0), (184, .iload_n 3, 1, 0, 0, 0), (185, .iconst 4, 1, 4, 0, 0), (186, .invokevirtual 19, 3, 71, 2, 8), (189, .if_icmp .gt 29, 3, 0, 0, 0)],
  [(192, .iload 7, 2, 0, 0, 0), (194, .bipush (-9), 2, 9, 1, 0), (196, .if_icmp .eq 24, 3, 0, 0, 0), (199, .iload 4, 2, 0, 0, 0), (201, .iconst 2, 1, 2, 0, 0), (202, .if_icmp .lt 16, 3, 0, 0, 0), (205, .aload_n 0, 1, 0, 0, 0), (206, .iload_n 3, 1, 0, 0, 0), (207, .iconst 0, 1, 0, 0, 0)],
  [(208, .iload 7, 2, 0, 0, 0), (210, .invokevirtual 23, 3, 72, 3, 8), (213, .bipush 63, 2, 63, 0, 0), (215, .if_icmp .eq 5, 3, 0, 0, 0), (218, .iconst 0, 1, 0, 0, 0), (219, .ireturn, 1, 0, 0, 1), (220, .iload_n 1, 1, 0, 0, 0), (221, .iload 4, 2, 0, 0, 0), (223, .ifCond .ne 7, 3, 0, 0, 0)],
  [(226, .iconst 1, 1, 1, 0, 0), (227, .goto 4, 3, 0, 0, 0), (230, .iconst 0, 1, 0, 0, 0), (231, .iadd, 1, 0, 0, 0), (232, .istore_n 1, 1, 0, 0, 0), (233, .iload_n 2, 1, 0, 0, 0), (234, .aload_n 0, 1, 0, 0, 0), (235, .iload_n 3, 1, 0, 0, 0), (236, .iconst 2, 1, 2, 0, 0), (237, .invokevirtual 19, 3, 71, 2, 8)],
  [(240, .iadd, 1, 0, 0, 0), (241, .istore_n 2, 1, 0, 0, 0), (242, .iinc 3 1, 3, 1, 0, 0), (245, .goto (-239), 3, 0, 0, 0), (248, .aload_n 0, 1, 0, 0, 0), (249, .iconst 1, 1, 1, 0, 0), (250, .invokevirtual 13, 3, 105, 1, 8), (253, .iload_n 1, 1, 0, 0, 0), (254, .if_icmp .ne 16, 3, 0, 0, 0)],
  [(257, .aload_n 0, 1, 0, 0, 0), (258, .iconst 4, 1, 4, 0, 0), (259, .invokevirtual 13, 3, 105, 1, 8), (262, .iload_n 2, 1, 0, 0, 0), (263, .if_icmp .ne 7, 3, 0, 0, 0), (266, .iconst 1, 1, 1, 0, 0), (267, .goto 4, 3, 0, 0, 0), (270, .iconst 0, 1, 0, 0, 0), (271, .ireturn, 1, 0, 0, 1)]]
/-- WornSumsLaw.least(LWornSums;)Z -/
def pc_111 : List (List (Nat × smI)) := [[(0, .aload_n 0, 1, 0, 0, 0), (1, .iconst 0, 1, 0, 0, 0), (2, .invokevirtual 13, 3, 105, 1, 8), (5, .istore_n 1, 1, 0, 0, 0), (6, .aload_n 0, 1, 0, 0, 0), (7, .iconst 3, 1, 3, 0, 0), (8, .invokevirtual 13, 3, 105, 1, 8), (11, .istore_n 2, 1, 0, 0, 0), (12, .aload_n 0, 1, 0, 0, 0), (13, .iconst (-1), 1, 1, 1, 0), (14, .invokevirtual 38, 3, 91, 1, 8)],
  [(17, .istore_n 3, 1, 0, 0, 0), (18, .iconst 0, 1, 0, 0, 0), (19, .istore 4, 2, 0, 0, 0), (21, .iconst 0, 1, 0, 0, 0), (22, .istore 5, 2, 0, 0, 0), (24, .iconst 0, 1, 0, 0, 0), (25, .istore 6, 2, 0, 0, 0), (27, .iconst 1, 1, 1, 0, 0), (28, .istore 7, 2, 0, 0, 0), (30, .iconst 0, 1, 0, 0, 0), (31, .istore 8, 2, 0, 0, 0)],
  [(33, .iconst 0, 1, 0, 0, 0), (34, .istore 9, 2, 0, 0, 0), (36, .iload 9, 2, 0, 0, 0), (38, .iload_n 1, 1, 0, 0, 0), (39, .if_icmp .ge 236, 3, 0, 0, 0), (42, .iload 7, 2, 0, 0, 0), (44, .ifCond .eq 18, 3, 0, 0, 0), (47, .aload_n 0, 1, 0, 0, 0)],
  [(48, .iload 9, 2, 0, 0, 0), (50, .iconst 5, 1, 5, 0, 0), (51, .invokevirtual 19, 3, 71, 2, 8), (54, .iconst 1, 1, 1, 0, 0), (55, .if_icmp .ne 7, 3, 0, 0, 0), (58, .iconst 1, 1, 1, 0, 0), (59, .goto 4, 3, 0, 0, 0), (62, .iconst 0, 1, 0, 0, 0), (63, .istore 7, 2, 0, 0, 0)],
  [(65, .iload 8, 2, 0, 0, 0), (67, .aload_n 0, 1, 0, 0, 0), (68, .iload 9, 2, 0, 0, 0), (70, .iconst 5, 1, 5, 0, 0), (71, .invokevirtual 19, 3, 71, 2, 8), (74, .ifCond .le 14, 3, 0, 0, 0), (77, .aload_n 0, 1, 0, 0, 0), (78, .iload 9, 2, 0, 0, 0)],
  [(80, .iconst 0, 1, 0, 0, 0), (81, .iconst 0, 1, 0, 0, 0), (82, .invokevirtual 27, 3, 78, 3, 8), (85, .goto 4, 3, 0, 0, 0), (88, .iconst 0, 1, 0, 0, 0), (89, .iadd, 1, 0, 0, 0), (90, .istore 8, 2, 0, 0, 0), (92, .iload 6, 2, 0, 0, 0), (94, .aload_n 0, 1, 0, 0, 0), (95, .iload 9, 2, 0, 0, 0)],
  [(97, .iconst 5, 1, 5, 0, 0), (98, .invokevirtual 19, 3, 71, 2, 8), (101, .ifCond .le 14, 3, 0, 0, 0), (104, .aload_n 0, 1, 0, 0, 0), (105, .iload 9, 2, 0, 0, 0), (107, .iconst 0, 1, 0, 0, 0), (108, .iconst 1, 1, 1, 0, 0), (109, .invokevirtual 27, 3, 78, 3, 8)],
  [(112, .goto 4, 3, 0, 0, 0), (115, .iconst 0, 1, 0, 0, 0), (116, .iadd, 1, 0, 0, 0), (117, .istore 6, 2, 0, 0, 0), (119, .aload_n 0, 1, 0, 0, 0), (120, .iload 9, 2, 0, 0, 0), (122, .invokevirtual 38, 3, 91, 1, 8), (125, .istore 10, 2, 0, 0, 0), (127, .aload_n 0, 1, 0, 0, 0)],
  [(128, .iload 9, 2, 0, 0, 0), (130, .invokevirtual 41, 3, 98, 1, 8), (133, .istore 11, 2, 0, 0, 0), (135, .iload_n 3, 1, 0, 0, 0), (136, .bipush (-9), 2, 9, 1, 0), (138, .if_icmp .ne 19, 3, 0, 0, 0), (141, .iload 10, 2, 0, 0, 0), (143, .bipush (-9), 2, 9, 1, 0)],
  [(145, .if_icmp .ne 10, 3, 0, 0, 0), (148, .iload 11, 2, 0, 0, 0), (150, .bipush (-9), 2, 9, 1, 0), (152, .if_icmp .eq 117, 3, 0, 0, 0), (155, .iconst 0, 1, 0, 0, 0), (156, .ireturn, 1, 0, 0, 1), (157, .aload_n 0, 1, 0, 0, 0), (158, .iload 9, 2, 0, 0, 0)],
  [(160, .iload 10, 2, 0, 0, 0), (162, .iconst 0, 1, 0, 0, 0), (163, .invokevirtual 30, 3, 73, 3, 8), (166, .bipush (-9), 2, 9, 1, 0), (168, .if_icmp .eq 68, 3, 0, 0, 0), (171, .aload_n 0, 1, 0, 0, 0), (172, .iload 9, 2, 0, 0, 0), (174, .iload 10, 2, 0, 0, 0)],
  [(176, .iconst 1, 1, 1, 0, 0), (177, .invokevirtual 30, 3, 73, 3, 8), (180, .bipush (-9), 2, 9, 1, 0), (182, .if_icmp .eq 54, 3, 0, 0, 0), (185, .iload 11, 2, 0, 0, 0), (187, .bipush (-9), 2, 9, 1, 0), (189, .if_icmp .eq 10, 3, 0, 0, 0)],
  [(192, .iload 11, 2, 0, 0, 0), (194, .iload 10, 2, 0, 0, 0), (196, .if_icmp .ne 40, 3, 0, 0, 0), (199, .iload_n 2, 1, 0, 0, 0), (200, .bipush (-9), 2, 9, 1, 0), (202, .if_icmp .ne 16, 3, 0, 0, 0), (205, .iload 10, 2, 0, 0, 0), (207, .aload_n 0, 1, 0, 0, 0)],
  [(208, .iload 9, 2, 0, 0, 0), (210, .iconst 0, 1, 0, 0, 0), (211, .iconst 0, 1, 0, 0, 0), (212, .invokevirtual 27, 3, 78, 3, 8), (215, .if_icmp .ne 21, 3, 0, 0, 0), (218, .aload_n 0, 1, 0, 0, 0), (219, .iload 9, 2, 0, 0, 0), (221, .iconst 5, 1, 5, 0, 0), (222, .invokevirtual 19, 3, 71, 2, 8)],
  [(225, .iconst 1, 1, 1, 0, 0), (226, .if_icmp .ne 12, 3, 0, 0, 0), (229, .iload 11, 2, 0, 0, 0), (231, .iload 10, 2, 0, 0, 0), (233, .if_icmp .eq 5, 3, 0, 0, 0), (236, .iconst 0, 1, 0, 0, 0), (237, .ireturn, 1, 0, 0, 1), (238, .iload 4, 2, 0, 0, 0)],
  [(240, .iload 10, 2, 0, 0, 0), (242, .iadd, 1, 0, 0, 0), (243, .istore 4, 2, 0, 0, 0), (245, .iload 5, 2, 0, 0, 0), (247, .aload_n 0, 1, 0, 0, 0), (248, .iload 9, 2, 0, 0, 0), (250, .iload 10, 2, 0, 0, 0), (252, .iconst 0, 1, 0, 0, 0), (253, .invokevirtual 30, 3, 73, 3, 8)],
  [(256, .aload_n 0, 1, 0, 0, 0), (257, .iload 9, 2, 0, 0, 0), (259, .iload 10, 2, 0, 0, 0), (261, .iconst 1, 1, 1, 0, 0), (262, .invokevirtual 30, 3, 73, 3, 8), (265, .iadd, 1, 0, 0, 0), (266, .iadd, 1, 0, 0, 0), (267, .istore 5, 2, 0, 0, 0), (269, .iinc 9 1, 3, 1, 0, 0)],
  [(272, .goto (-236), 3, 0, 0, 0), (275, .iload_n 3, 1, 0, 0, 0), (276, .bipush (-9), 2, 9, 1, 0), (278, .if_icmp .ne 34, 3, 0, 0, 0), (281, .aload_n 0, 1, 0, 0, 0), (282, .iconst 1, 1, 1, 0, 0), (283, .invokevirtual 13, 3, 105, 1, 8), (286, .ifCond .gt 20, 3, 0, 0, 0)],
  [(289, .iload_n 2, 1, 0, 0, 0), (290, .bipush (-9), 2, 9, 1, 0), (292, .if_icmp .eq 18, 3, 0, 0, 0), (295, .iload 7, 2, 0, 0, 0), (297, .ifCond .eq 9, 3, 0, 0, 0), (300, .iload 8, 2, 0, 0, 0), (302, .iload_n 2, 1, 0, 0, 0), (303, .if_icmp .eq 7, 3, 0, 0, 0)],
  [(306, .iconst 1, 1, 1, 0, 0), (307, .goto 4, 3, 0, 0, 0), (310, .iconst 0, 1, 0, 0, 0), (311, .ireturn, 1, 0, 0, 1), (312, .aload_n 0, 1, 0, 0, 0), (313, .iconst 1, 1, 1, 0, 0), (314, .invokevirtual 13, 3, 105, 1, 8), (317, .ifCond .ne 31, 3, 0, 0, 0)],
  [(320, .iload_n 3, 1, 0, 0, 0), (321, .iload 5, 2, 0, 0, 0), (323, .if_icmp .ne 25, 3, 0, 0, 0), (326, .iload_n 2, 1, 0, 0, 0), (327, .bipush (-9), 2, 9, 1, 0), (329, .if_icmp .eq 9, 3, 0, 0, 0), (332, .iload 4, 2, 0, 0, 0), (334, .iload_n 2, 1, 0, 0, 0), (335, .if_icmp .ne 13, 3, 0, 0, 0)],
  [(338, .iload_n 3, 1, 0, 0, 0), (339, .iload 6, 2, 0, 0, 0), (341, .if_icmp .lt 7, 3, 0, 0, 0), (344, .iconst 1, 1, 1, 0, 0), (345, .goto 4, 3, 0, 0, 0), (348, .iconst 0, 1, 0, 0, 0), (349, .ireturn, 1, 0, 0, 1)]]
/-- WornSumsLaw.type(LWornSums;II)Z -/
def pc_112 : List (List (Nat × smI)) := [[(0, .iload_n 1, 1, 0, 0, 0), (1, .sipush 1000, 3, 1000, 0, 0), (4, .invokestatic 44, 3, 108, 2, 0), (7, .istore_n 3, 1, 0, 0, 0), (8, .aload_n 0, 1, 0, 0, 0), (9, .invokevirtual 47, 3, 29, 0, 8), (12, .ifCond .lt 7, 3, 0, 0, 0), (15, .iconst 1, 1, 1, 0, 0)],
  [(16, .goto 4, 3, 0, 0, 0), (19, .iconst 0, 1, 0, 0, 0), (20, .istore 4, 2, 0, 0, 0), (22, .aload_n 0, 1, 0, 0, 0), (23, .iload_n 3, 1, 0, 0, 0), (24, .iconst (-1), 1, 1, 1, 0), (25, .invokevirtual 51, 3, 79, 2, 8), (28, .istore 5, 2, 0, 0, 0), (30, .iconst 0, 1, 0, 0, 0), (31, .istore 6, 2, 0, 0, 0)],
  [(33, .iload 6, 2, 0, 0, 0), (35, .iload 5, 2, 0, 0, 0), (37, .if_icmp .ge 68, 3, 0, 0, 0), (40, .aload_n 0, 1, 0, 0, 0), (41, .iload_n 3, 1, 0, 0, 0), (42, .iload 6, 2, 0, 0, 0), (44, .invokevirtual 51, 3, 79, 2, 8), (47, .istore 7, 2, 0, 0, 0)],
  [(49, .iload 4, 2, 0, 0, 0), (51, .ifCond .eq 45, 3, 0, 0, 0), (54, .aload_n 0, 1, 0, 0, 0), (55, .iload 7, 2, 0, 0, 0), (57, .bipush 32, 2, 32, 0, 0), (59, .if_icmp .eq 21, 3, 0, 0, 0), (62, .iload_n 2, 1, 0, 0, 0), (63, .iload 6, 2, 0, 0, 0)],
  [(65, .bipush 11, 2, 11, 0, 0), (67, .irem, 1, 0, 0, 0), (68, .ishr, 1, 0, 0, 0), (69, .bipush 7, 2, 7, 0, 0), (71, .iand, 1, 0, 0, 0), (72, .ifCond .ne 8, 3, 0, 0, 0), (75, .bipush 63, 2, 63, 0, 0), (77, .goto 5, 3, 0, 0, 0)],
  [(80, .iload 7, 2, 0, 0, 0), (82, .invokevirtual 54, 3, 28, 1, 8), (85, .iload 6, 2, 0, 0, 0), (87, .iconst 1, 1, 1, 0, 0), (88, .iadd, 1, 0, 0, 0), (89, .if_icmp .ne 7, 3, 0, 0, 0), (92, .iconst 1, 1, 1, 0, 0), (93, .goto 4, 3, 0, 0, 0)],
  [(96, .iconst 0, 1, 0, 0, 0), (97, .istore 4, 2, 0, 0, 0), (99, .iinc 6 1, 3, 1, 0, 0), (102, .goto (-69), 3, 0, 0, 0), (105, .iload 4, 2, 0, 0, 0), (107, .ifCond .eq 20, 3, 0, 0, 0), (110, .aload_n 0, 1, 0, 0, 0), (111, .bipush 61, 2, 61, 0, 0)],
  [(113, .invokevirtual 54, 3, 28, 1, 8), (116, .iload 5, 2, 0, 0, 0), (118, .iconst 1, 1, 1, 0, 0), (119, .iadd, 1, 0, 0, 0), (120, .if_icmp .ne 7, 3, 0, 0, 0), (123, .iconst 1, 1, 1, 0, 0), (124, .goto 4, 3, 0, 0, 0), (127, .iconst 0, 1, 0, 0, 0)],
  [(128, .istore 4, 2, 0, 0, 0), (130, .iconst 0, 1, 0, 0, 0), (131, .istore 6, 2, 0, 0, 0), (133, .bipush 100, 2, 100, 0, 0), (135, .istore 7, 2, 0, 0, 0), (137, .iload_n 3, 1, 0, 0, 0), (138, .istore 8, 2, 0, 0, 0), (140, .iload 7, 2, 0, 0, 0), (142, .ifCond .le 93, 3, 0, 0, 0)],
  [(145, .iload 8, 2, 0, 0, 0), (147, .iload 7, 2, 0, 0, 0), (149, .idiv, 1, 0, 0, 0), (150, .istore 9, 2, 0, 0, 0), (152, .iload 8, 2, 0, 0, 0), (154, .iload 7, 2, 0, 0, 0), (156, .irem, 1, 0, 0, 0), (157, .istore 8, 2, 0, 0, 0), (159, .iload 6, 2, 0, 0, 0)],
  [(161, .iload 9, 2, 0, 0, 0), (163, .ifCond .gt 9, 3, 0, 0, 0), (166, .iload 7, 2, 0, 0, 0), (168, .iconst 1, 1, 1, 0, 0), (169, .if_icmp .ne 7, 3, 0, 0, 0), (172, .iconst 1, 1, 1, 0, 0), (173, .goto 4, 3, 0, 0, 0)],
  [(176, .iconst 0, 1, 0, 0, 0), (177, .ior, 1, 0, 0, 0), (178, .istore 6, 2, 0, 0, 0), (180, .iload 4, 2, 0, 0, 0), (182, .ifCond .eq 40, 3, 0, 0, 0), (185, .iload 6, 2, 0, 0, 0), (187, .ifCond .eq 31, 3, 0, 0, 0), (190, .aload_n 0, 1, 0, 0, 0), (191, .iload_n 2, 1, 0, 0, 0)],
  [(192, .bipush 12, 2, 12, 0, 0), (194, .ishr, 1, 0, 0, 0), (195, .bipush 15, 2, 15, 0, 0), (197, .iand, 1, 0, 0, 0), (198, .iconst 3, 1, 3, 0, 0), (199, .if_icmp .ge 8, 3, 0, 0, 0), (202, .bipush 63, 2, 63, 0, 0), (204, .goto 8, 3, 0, 0, 0), (207, .bipush 48, 2, 48, 0, 0)],
  [(209, .iload 9, 2, 0, 0, 0), (211, .iadd, 1, 0, 0, 0), (212, .invokevirtual 54, 3, 28, 1, 8), (215, .ifCond .le 7, 3, 0, 0, 0), (218, .iconst 1, 1, 1, 0, 0), (219, .goto 4, 3, 0, 0, 0), (222, .iconst 0, 1, 0, 0, 0), (223, .istore 4, 2, 0, 0, 0)],
  [(225, .iload 7, 2, 0, 0, 0), (227, .bipush 10, 2, 10, 0, 0), (229, .idiv, 1, 0, 0, 0), (230, .istore 7, 2, 0, 0, 0), (232, .goto (-92), 3, 0, 0, 0), (235, .aload_n 0, 1, 0, 0, 0), (236, .iconst 0, 1, 0, 0, 0), (237, .invokevirtual 13, 3, 105, 1, 8)],
  [(240, .istore 7, 2, 0, 0, 0), (242, .aload_n 0, 1, 0, 0, 0), (243, .invokevirtual 57, 3, 47, 0, 8), (246, .istore 8, 2, 0, 0, 0), (248, .iload 7, 2, 0, 0, 0), (250, .bipush 6, 2, 6, 0, 0), (252, .if_icmp .ne 21, 3, 0, 0, 0), (255, .iload 4, 2, 0, 0, 0)],
  [(257, .ifCond .eq 14, 3, 0, 0, 0), (260, .iload 8, 2, 0, 0, 0), (262, .bipush (-3), 2, 3, 1, 0), (264, .if_icmp .ne 7, 3, 0, 0, 0), (267, .iconst 1, 1, 1, 0, 0), (268, .goto 4, 3, 0, 0, 0), (271, .iconst 0, 1, 0, 0, 0)],
  [(272, .ireturn, 1, 0, 0, 1), (273, .iload 4, 2, 0, 0, 0), (275, .ifCond .eq 50, 3, 0, 0, 0), (278, .iload 8, 2, 0, 0, 0), (280, .iload 7, 2, 0, 0, 0), (282, .if_icmp .ne 43, 3, 0, 0, 0), (285, .aload_n 0, 1, 0, 0, 0), (286, .iload 7, 2, 0, 0, 0)],
  [(288, .iload_n 3, 1, 0, 0, 0), (289, .iconst 0, 1, 0, 0, 0), (290, .invokevirtual 30, 3, 73, 3, 8), (293, .bipush (-9), 2, 9, 1, 0), (295, .if_icmp .eq 30, 3, 0, 0, 0), (298, .aload_n 0, 1, 0, 0, 0), (299, .iload 7, 2, 0, 0, 0), (301, .iload_n 3, 1, 0, 0, 0), (302, .iconst 1, 1, 1, 0, 0), (303, .invokevirtual 30, 3, 73, 3, 8)],
  [(306, .bipush (-9), 2, 9, 1, 0), (308, .if_icmp .eq 17, 3, 0, 0, 0), (311, .aload_n 0, 1, 0, 0, 0), (312, .iload 7, 2, 0, 0, 0), (314, .iconst 5, 1, 5, 0, 0), (315, .invokevirtual 19, 3, 71, 2, 8), (318, .ifCond .le 7, 3, 0, 0, 0)],
  [(321, .iconst 1, 1, 1, 0, 0), (322, .goto 4, 3, 0, 0, 0), (325, .iconst 0, 1, 0, 0, 0), (326, .ireturn, 1, 0, 0, 1)]]
/-- WornSumsLaw.does(LWornSums;II)I -/
def pc_113 : List (List (Nat × smI)) := [[(0, .iload_n 1, 1, 0, 0, 0), (1, .bipush 16, 2, 16, 0, 0), (3, .invokestatic 44, 3, 108, 2, 0), (6, .istore_n 3, 1, 0, 0, 0), (7, .iload_n 1, 1, 0, 0, 0), (8, .iconst 4, 1, 4, 0, 0), (9, .ishr, 1, 0, 0, 0), (10, .bipush 15, 2, 15, 0, 0), (12, .iand, 1, 0, 0, 0), (13, .ifCond .ne 7, 3, 0, 0, 0)],
  [(16, .iconst 1, 1, 1, 0, 0), (17, .goto 4, 3, 0, 0, 0), (20, .iconst 0, 1, 0, 0, 0), (21, .istore 4, 2, 0, 0, 0), (23, .iload 4, 2, 0, 0, 0), (25, .ifCond .eq 7, 3, 0, 0, 0), (28, .iload_n 2, 1, 0, 0, 0), (29, .goto 9, 3, 0, 0, 0)],
  [(32, .iload_n 2, 1, 0, 0, 0), (33, .bipush 6, 2, 6, 0, 0), (35, .invokestatic 44, 3, 108, 2, 0), (38, .istore 5, 2, 0, 0, 0), (40, .iload 4, 2, 0, 0, 0), (42, .ifCond .eq 10, 3, 0, 0, 0), (45, .iload_n 1, 1, 0, 0, 0), (46, .bipush 8, 2, 8, 0, 0)],
  [(48, .ishr, 1, 0, 0, 0), (49, .goto 9, 3, 0, 0, 0), (52, .iload_n 1, 1, 0, 0, 0), (53, .bipush 8, 2, 8, 0, 0), (55, .ishr, 1, 0, 0, 0), (56, .iconst 1, 1, 1, 0, 0), (57, .iand, 1, 0, 0, 0), (58, .istore 6, 2, 0, 0, 0), (60, .iload 4, 2, 0, 0, 0), (62, .ifCond .eq 9, 3, 0, 0, 0)],
  [(65, .iload_n 2, 1, 0, 0, 0), (66, .iconst 3, 1, 3, 0, 0), (67, .ishr, 1, 0, 0, 0), (68, .goto 21, 3, 0, 0, 0), (71, .iload_n 2, 1, 0, 0, 0), (72, .iconst 3, 1, 3, 0, 0), (73, .ishr, 1, 0, 0, 0), (74, .iload 6, 2, 0, 0, 0), (76, .iconst 1, 1, 1, 0, 0), (77, .if_icmp .ne 7, 3, 0, 0, 0)],
  [(80, .iconst 3, 1, 3, 0, 0), (81, .goto 5, 3, 0, 0, 0), (84, .bipush 24, 2, 24, 0, 0), (86, .invokestatic 44, 3, 108, 2, 0), (89, .istore 7, 2, 0, 0, 0), (91, .iload_n 3, 1, 0, 0, 0), (92, .bipush 6, 2, 6, 0, 0), (94, .if_icmp .ge 16, 3, 0, 0, 0)],
  [(97, .aload_n 0, 1, 0, 0, 0), (98, .iload 5, 2, 0, 0, 0), (100, .iload 6, 2, 0, 0, 0), (102, .iload 7, 2, 0, 0, 0), (104, .invokevirtual 60, 3, 52, 3, 8), (107, .goto 157, 3, 0, 0, 0), (110, .iload_n 3, 1, 0, 0, 0), (111, .bipush 10, 2, 10, 0, 0)],
  [(113, .if_icmp .ge 63, 3, 0, 0, 0), (116, .aload_n 0, 1, 0, 0, 0), (117, .iload 5, 2, 0, 0, 0), (119, .iload 6, 2, 0, 0, 0), (121, .iload 7, 2, 0, 0, 0), (123, .iload_n 1, 1, 0, 0, 0), (124, .bipush 12, 2, 12, 0, 0), (126, .ishr, 1, 0, 0, 0), (127, .bipush 15, 2, 15, 0, 0)],
  [(129, .iand, 1, 0, 0, 0), (130, .ifCond .ne 7, 3, 0, 0, 0), (133, .iload_n 2, 1, 0, 0, 0), (134, .goto 36, 3, 0, 0, 0), (137, .iload 6, 2, 0, 0, 0), (139, .iconst 1, 1, 1, 0, 0), (140, .if_icmp .ne 18, 3, 0, 0, 0), (143, .bipush 48, 2, 48, 0, 0)],
  [(145, .iload_n 2, 1, 0, 0, 0), (146, .bipush 9, 2, 9, 0, 0), (148, .ishr, 1, 0, 0, 0), (149, .bipush 10, 2, 10, 0, 0), (151, .invokestatic 44, 3, 108, 2, 0), (154, .iadd, 1, 0, 0, 0), (155, .goto 15, 3, 0, 0, 0), (158, .bipush 97, 2, 97, 0, 0)],
  [(160, .iload_n 2, 1, 0, 0, 0), (161, .bipush 9, 2, 9, 0, 0), (163, .ishr, 1, 0, 0, 0), (164, .bipush 26, 2, 26, 0, 0), (166, .invokestatic 44, 3, 108, 2, 0), (169, .iadd, 1, 0, 0, 0), (170, .invokevirtual 63, 3, 56, 4, 8), (173, .goto 91, 3, 0, 0, 0)],
  [(176, .iload_n 3, 1, 0, 0, 0), (177, .bipush 10, 2, 10, 0, 0), (179, .if_icmp .ne 12, 3, 0, 0, 0), (182, .aload_n 0, 1, 0, 0, 0), (183, .iload 5, 2, 0, 0, 0), (185, .invokevirtual 67, 3, 50, 1, 8), (188, .goto 76, 3, 0, 0, 0), (191, .iload_n 3, 1, 0, 0, 0)],
  [(192, .bipush 11, 2, 11, 0, 0), (194, .if_icmp .ne 24, 3, 0, 0, 0), (197, .aload_n 0, 1, 0, 0, 0), (198, .iload 4, 2, 0, 0, 0), (200, .ifCond .eq 7, 3, 0, 0, 0), (203, .iload_n 2, 1, 0, 0, 0), (204, .goto 8, 3, 0, 0, 0), (207, .iload_n 2, 1, 0, 0, 0)],
  [(208, .iconst 3, 1, 3, 0, 0), (209, .invokestatic 44, 3, 108, 2, 0), (212, .invokevirtual 70, 3, 57, 1, 8), (215, .goto 49, 3, 0, 0, 0), (218, .iload_n 3, 1, 0, 0, 0), (219, .bipush 14, 2, 14, 0, 0), (221, .if_icmp .ge 39, 3, 0, 0, 0)],
  [(224, .aload_n 0, 1, 0, 0, 0), (225, .iload 4, 2, 0, 0, 0), (227, .ifCond .eq 7, 3, 0, 0, 0), (230, .iload_n 2, 1, 0, 0, 0), (231, .goto 23, 3, 0, 0, 0), (234, .iload_n 2, 1, 0, 0, 0), (235, .iconst 3, 1, 3, 0, 0), (236, .iand, 1, 0, 0, 0), (237, .ifCond .ne 8, 3, 0, 0, 0)],
  [(240, .bipush (-9), 2, 9, 1, 0), (242, .goto 12, 3, 0, 0, 0), (245, .iload_n 2, 1, 0, 0, 0), (246, .iconst 2, 1, 2, 0, 0), (247, .ishr, 1, 0, 0, 0), (248, .sipush 1800, 3, 1800, 0, 0), (251, .invokestatic 44, 3, 108, 2, 0), (254, .invokevirtual 73, 3, 58, 1, 8)],
  [(257, .goto 7, 3, 0, 0, 0), (260, .aload_n 0, 1, 0, 0, 0), (261, .invokevirtual 76, 3, 60, 0, 8), (264, .ireturn, 1, 0, 0, 0)]]
/-- WornSumsLaw.refused(LWornSums;II)Z -/
def pc_114 : List (List (Nat × smI)) := [[(0, .aload_n 0, 1, 0, 0, 0), (1, .invokestatic 79, 3, 109, 1, 0), (4, .lstore_n 3, 1, 0, 0, 0), (5, .aload_n 0, 1, 0, 0, 0), (6, .bipush 6, 2, 6, 0, 0), (8, .invokevirtual 13, 3, 105, 1, 8), (11, .istore 5, 2, 0, 0, 0), (13, .aload_n 0, 1, 0, 0, 0), (14, .aload_n 0, 1, 0, 0, 0), (15, .iconst 0, 1, 0, 0, 0)],
  [(16, .invokevirtual 13, 3, 105, 1, 8), (19, .invokevirtual 67, 3, 50, 1, 8), (22, .iconst (-1), 1, 1, 1, 0), (23, .if_icmp .ne 285, 3, 0, 0, 0), (26, .aload_n 0, 1, 0, 0, 0), (27, .bipush 6, 2, 6, 0, 0), (29, .iconst 0, 1, 0, 0, 0), (30, .iconst 0, 1, 0, 0, 0), (31, .invokevirtual 60, 3, 52, 3, 8)],
  [(34, .iconst (-1), 1, 1, 1, 0), (35, .if_icmp .ne 273, 3, 0, 0, 0), (38, .aload_n 0, 1, 0, 0, 0), (39, .iconst 0, 1, 0, 0, 0), (40, .iload_n 1, 1, 0, 0, 0), (41, .iconst 2, 1, 2, 0, 0), (42, .ior, 1, 0, 0, 0), (43, .iconst 0, 1, 0, 0, 0), (44, .invokevirtual 60, 3, 52, 3, 8), (47, .iconst (-1), 1, 1, 1, 0)],
  [(48, .if_icmp .ne 260, 3, 0, 0, 0), (51, .aload_n 0, 1, 0, 0, 0), (52, .iconst (-1), 1, 1, 1, 0), (53, .iconst 0, 1, 0, 0, 0), (54, .iconst 0, 1, 0, 0, 0), (55, .bipush 97, 2, 97, 0, 0), (57, .invokevirtual 63, 3, 56, 4, 8), (60, .iconst (-1), 1, 1, 1, 0), (61, .if_icmp .ne 247, 3, 0, 0, 0)],
  [(64, .aload_n 0, 1, 0, 0, 0), (65, .iconst 0, 1, 0, 0, 0), (66, .iconst 0, 1, 0, 0, 0), (67, .iconst 0, 1, 0, 0, 0), (68, .iload_n 2, 1, 0, 0, 0), (69, .sipush 128, 3, 128, 0, 0), (72, .ior, 1, 0, 0, 0), (73, .invokevirtual 63, 3, 56, 4, 8), (76, .iconst (-1), 1, 1, 1, 0), (77, .if_icmp .ne 231, 3, 0, 0, 0)],
  [(80, .aload_n 0, 1, 0, 0, 0), (81, .iconst 0, 1, 0, 0, 0), (82, .iconst 1, 1, 1, 0, 0), (83, .iconst 0, 1, 0, 0, 0), (84, .bipush 97, 2, 97, 0, 0), (86, .invokevirtual 63, 3, 56, 4, 8), (89, .iconst (-1), 1, 1, 1, 0), (90, .if_icmp .ne 218, 3, 0, 0, 0), (93, .aload_n 0, 1, 0, 0, 0), (94, .iload_n 1, 1, 0, 0, 0), (95, .iconst 4, 1, 4, 0, 0)],
  [(96, .ior, 1, 0, 0, 0), (97, .invokevirtual 70, 3, 57, 1, 8), (100, .iconst (-1), 1, 1, 1, 0), (101, .if_icmp .ne 207, 3, 0, 0, 0), (104, .aload_n 0, 1, 0, 0, 0), (105, .aload_n 0, 1, 0, 0, 0), (106, .iconst 2, 1, 2, 0, 0), (107, .invokevirtual 13, 3, 105, 1, 8), (110, .invokevirtual 70, 3, 57, 1, 8)],
  [(113, .bipush (-2), 2, 2, 1, 0), (115, .if_icmp .ne 193, 3, 0, 0, 0), (118, .aload_n 0, 1, 0, 0, 0), (119, .iload_n 2, 1, 0, 0, 0), (120, .bipush (-9), 2, 9, 1, 0), (122, .if_icmp .ge 7, 3, 0, 0, 0), (125, .iload_n 2, 1, 0, 0, 0), (126, .goto 6, 3, 0, 0, 0)],
  [(129, .sipush 10000, 3, 10000, 0, 0), (132, .invokevirtual 73, 3, 58, 1, 8), (135, .iconst (-1), 1, 1, 1, 0), (136, .if_icmp .ne 172, 3, 0, 0, 0), (139, .aload_n 0, 1, 0, 0, 0), (140, .aload_n 0, 1, 0, 0, 0), (141, .iconst 3, 1, 3, 0, 0), (142, .invokevirtual 13, 3, 105, 1, 8)],
  [(145, .invokevirtual 73, 3, 58, 1, 8), (148, .bipush (-2), 2, 2, 1, 0), (150, .if_icmp .ne 158, 3, 0, 0, 0), (153, .aload_n 0, 1, 0, 0, 0), (154, .iconst 0, 1, 0, 0, 0), (155, .iload_n 1, 1, 0, 0, 0), (156, .bipush 8, 2, 8, 0, 0), (158, .ior, 1, 0, 0, 0), (159, .invokevirtual 19, 3, 71, 2, 8)],
  [(162, .iconst (-1), 1, 1, 1, 0), (163, .if_icmp .ne 145, 3, 0, 0, 0), (166, .aload_n 0, 1, 0, 0, 0), (167, .iconst 0, 1, 0, 0, 0), (168, .iconst 0, 1, 0, 0, 0), (169, .bipush 31, 2, 31, 0, 0), (171, .invokevirtual 23, 3, 72, 3, 8), (174, .iconst (-1), 1, 1, 1, 0), (175, .if_icmp .ne 133, 3, 0, 0, 0)],
  [(178, .aload_n 0, 1, 0, 0, 0), (179, .iconst 0, 1, 0, 0, 0), (180, .iload_n 2, 1, 0, 0, 0), (181, .sipush 1024, 3, 1024, 0, 0), (184, .ior, 1, 0, 0, 0), (185, .iconst 0, 1, 0, 0, 0), (186, .invokevirtual 30, 3, 73, 3, 8), (189, .iconst (-1), 1, 1, 1, 0), (190, .if_icmp .ne 118, 3, 0, 0, 0)],
  [(193, .aload_n 0, 1, 0, 0, 0), (194, .iconst 0, 1, 0, 0, 0), (195, .iconst (-1), 1, 1, 1, 0), (196, .iconst 0, 1, 0, 0, 0), (197, .invokevirtual 27, 3, 78, 3, 8), (200, .iconst (-1), 1, 1, 1, 0), (201, .if_icmp .ne 107, 3, 0, 0, 0), (204, .aload_n 0, 1, 0, 0, 0), (205, .iload_n 1, 1, 0, 0, 0), (206, .sipush 1024, 3, 1024, 0, 0)],
  [(209, .ior, 1, 0, 0, 0), (210, .iconst 0, 1, 0, 0, 0), (211, .invokevirtual 51, 3, 79, 2, 8), (214, .iconst (-1), 1, 1, 1, 0), (215, .if_icmp .ne 93, 3, 0, 0, 0), (218, .aload_n 0, 1, 0, 0, 0), (219, .iconst 0, 1, 0, 0, 0), (220, .bipush (-2), 2, 2, 1, 0), (222, .invokevirtual 51, 3, 79, 2, 8)],
  [(225, .iconst (-1), 1, 1, 1, 0), (226, .if_icmp .ne 82, 3, 0, 0, 0), (229, .aload_n 0, 1, 0, 0, 0), (230, .bipush 6, 2, 6, 0, 0), (232, .invokevirtual 38, 3, 91, 1, 8), (235, .iconst (-1), 1, 1, 1, 0), (236, .if_icmp .ne 72, 3, 0, 0, 0), (239, .aload_n 0, 1, 0, 0, 0)],
  [(240, .iconst (-1), 1, 1, 1, 0), (241, .invokevirtual 41, 3, 98, 1, 8), (244, .iconst (-1), 1, 1, 1, 0), (245, .if_icmp .ne 63, 3, 0, 0, 0), (248, .aload_n 0, 1, 0, 0, 0), (249, .aload_n 0, 1, 0, 0, 0), (250, .iconst 0, 1, 0, 0, 0), (251, .invokevirtual 13, 3, 105, 1, 8), (254, .invokevirtual 33, 3, 101, 1, 8)],
  [(257, .iconst (-1), 1, 1, 1, 0), (258, .if_icmp .ne 50, 3, 0, 0, 0), (261, .aload_n 0, 1, 0, 0, 0), (262, .iload_n 2, 1, 0, 0, 0), (263, .iconst 2, 1, 2, 0, 0), (264, .ior, 1, 0, 0, 0), (265, .invokevirtual 83, 3, 102, 1, 8), (268, .iconst (-1), 1, 1, 1, 0), (269, .if_icmp .ne 39, 3, 0, 0, 0)],
  [(272, .aload_n 0, 1, 0, 0, 0), (273, .iconst 2, 1, 2, 0, 0), (274, .invokevirtual 86, 3, 103, 1, 8), (277, .iconst (-1), 1, 1, 1, 0), (278, .if_icmp .ne 30, 3, 0, 0, 0), (281, .aload_n 0, 1, 0, 0, 0), (282, .bipush 7, 2, 7, 0, 0), (284, .invokevirtual 13, 3, 105, 1, 8), (287, .iconst (-1), 1, 1, 1, 0)],
  [(288, .if_icmp .ne 20, 3, 0, 0, 0), (291, .aload_n 0, 1, 0, 0, 0), (292, .iload_n 1, 1, 0, 0, 0), (293, .sipush 256, 3, 256, 0, 0), (296, .ior, 1, 0, 0, 0), (297, .invokevirtual 54, 3, 28, 1, 8), (300, .iconst (-1), 1, 1, 1, 0), (301, .if_icmp .ne 7, 3, 0, 0, 0)],
  [(304, .iconst 1, 1, 1, 0, 0), (305, .goto 4, 3, 0, 0, 0), (308, .iconst 0, 1, 0, 0, 0), (309, .istore 6, 2, 0, 0, 0), (311, .iload 6, 2, 0, 0, 0), (313, .ifCond .eq 27, 3, 0, 0, 0), (316, .aload_n 0, 1, 0, 0, 0), (317, .invokestatic 79, 3, 109, 1, 0)],
  [(320, .lload_n 3, 1, 0, 0, 0), (321, .lcmp, 1, 0, 0, 0), (322, .ifCond .ne 18, 3, 0, 0, 0), (325, .aload_n 0, 1, 0, 0, 0), (326, .bipush 6, 2, 6, 0, 0), (328, .invokevirtual 13, 3, 105, 1, 8), (331, .iload 5, 2, 0, 0, 0), (333, .if_icmp .ne 7, 3, 0, 0, 0)],
  [(336, .iconst 1, 1, 1, 0, 0), (337, .goto 4, 3, 0, 0, 0), (340, .iconst 0, 1, 0, 0, 0), (341, .ireturn, 1, 0, 0, 1)]]
/-- WornSumsLaw.wears(LWornSums;I)Z -/
def pc_115 : List (List (Nat × smI)) := [[(0, .aload_n 0, 1, 0, 0, 0), (1, .iconst 0, 1, 0, 0, 0), (2, .invokevirtual 13, 3, 105, 1, 8), (5, .istore_n 2, 1, 0, 0, 0), (6, .iload_n 2, 1, 0, 0, 0), (7, .ifCond .ne 5, 3, 0, 0, 0), (10, .iconst 1, 1, 1, 0, 0), (11, .ireturn, 1, 0, 0, 1), (12, .iload_n 1, 1, 0, 0, 0), (13, .iload_n 2, 1, 0, 0, 0), (14, .invokestatic 44, 3, 108, 2, 0)],
  [(17, .istore_n 3, 1, 0, 0, 0), (18, .iload_n 1, 1, 0, 0, 0), (19, .iconst 3, 1, 3, 0, 0), (20, .ishr, 1, 0, 0, 0), (21, .iconst 1, 1, 1, 0, 0), (22, .iand, 1, 0, 0, 0), (23, .istore 4, 2, 0, 0, 0), (25, .iload_n 1, 1, 0, 0, 0), (26, .iconst 4, 1, 4, 0, 0), (27, .ishr, 1, 0, 0, 0), (28, .aload_n 0, 1, 0, 0, 0), (29, .iload_n 3, 1, 0, 0, 0), (30, .iload 4, 2, 0, 0, 0)],
  [(32, .invokevirtual 19, 3, 71, 2, 8), (35, .invokestatic 44, 3, 108, 2, 0), (38, .istore 5, 2, 0, 0, 0), (40, .aload_n 0, 1, 0, 0, 0), (41, .invokestatic 79, 3, 109, 1, 0), (44, .lstore 6, 2, 0, 0, 0), (46, .aload_n 0, 1, 0, 0, 0), (47, .iload_n 3, 1, 0, 0, 0)],
  [(48, .iconst 3, 1, 3, 0, 0), (49, .invokevirtual 19, 3, 71, 2, 8), (52, .istore 8, 2, 0, 0, 0), (54, .aload_n 0, 1, 0, 0, 0), (55, .iload_n 3, 1, 0, 0, 0), (56, .iconst 4, 1, 4, 0, 0), (57, .invokevirtual 19, 3, 71, 2, 8), (60, .istore 9, 2, 0, 0, 0), (62, .aload_n 0, 1, 0, 0, 0), (63, .iload_n 3, 1, 0, 0, 0)],
  [(64, .iconst 5, 1, 5, 0, 0), (65, .invokevirtual 19, 3, 71, 2, 8), (68, .istore 10, 2, 0, 0, 0), (70, .aload_n 0, 1, 0, 0, 0), (71, .iload_n 3, 1, 0, 0, 0), (72, .iload 4, 2, 0, 0, 0), (74, .iload 5, 2, 0, 0, 0), (76, .invokevirtual 60, 3, 52, 3, 8), (79, .istore 11, 2, 0, 0, 0)],
  [(81, .iload 11, 2, 0, 0, 0), (83, .ifCond .le 106, 3, 0, 0, 0), (86, .aload_n 0, 1, 0, 0, 0), (87, .iload_n 3, 1, 0, 0, 0), (88, .iconst 3, 1, 3, 0, 0), (89, .invokevirtual 19, 3, 71, 2, 8), (92, .iload 8, 2, 0, 0, 0), (94, .if_icmp .lt 93, 3, 0, 0, 0)],
  [(97, .aload_n 0, 1, 0, 0, 0), (98, .iload_n 3, 1, 0, 0, 0), (99, .iconst 4, 1, 4, 0, 0), (100, .invokevirtual 19, 3, 71, 2, 8), (103, .iload 9, 2, 0, 0, 0), (105, .if_icmp .lt 82, 3, 0, 0, 0), (108, .aload_n 0, 1, 0, 0, 0), (109, .iload_n 3, 1, 0, 0, 0), (110, .iconst 5, 1, 5, 0, 0), (111, .invokevirtual 19, 3, 71, 2, 8)],
  [(114, .iload 10, 2, 0, 0, 0), (116, .if_icmp .lt 71, 3, 0, 0, 0), (119, .aload_n 0, 1, 0, 0, 0), (120, .iload_n 3, 1, 0, 0, 0), (121, .iload 4, 2, 0, 0, 0), (123, .iload 5, 2, 0, 0, 0), (125, .invokevirtual 23, 3, 72, 3, 8)],
  [(128, .bipush 63, 2, 63, 0, 0), (130, .if_icmp .ne 57, 3, 0, 0, 0), (133, .aload_n 0, 1, 0, 0, 0), (134, .iload_n 3, 1, 0, 0, 0), (135, .iload 4, 2, 0, 0, 0), (137, .iload 5, 2, 0, 0, 0), (139, .iload 11, 2, 0, 0, 0), (141, .invokevirtual 63, 3, 56, 4, 8)],
  [(144, .aload_n 0, 1, 0, 0, 0), (145, .iload_n 3, 1, 0, 0, 0), (146, .iconst 2, 1, 2, 0, 0), (147, .invokevirtual 19, 3, 71, 2, 8), (150, .if_icmp .ne 37, 3, 0, 0, 0), (153, .aload_n 0, 1, 0, 0, 0), (154, .invokestatic 79, 3, 109, 1, 0), (157, .lload 6, 2, 0, 0, 0), (159, .lcmp, 1, 0, 0, 0)],
  [(160, .ifCond .ne 27, 3, 0, 0, 0), (163, .aload_n 0, 1, 0, 0, 0), (164, .invokevirtual 76, 3, 60, 0, 8), (167, .ifCond .lt 20, 3, 0, 0, 0), (170, .aload_n 0, 1, 0, 0, 0), (171, .invokevirtual 76, 3, 60, 0, 8), (174, .ifCond .lt 13, 3, 0, 0, 0)],
  [(177, .aload_n 0, 1, 0, 0, 0), (178, .invokestatic 79, 3, 109, 1, 0), (181, .lload 6, 2, 0, 0, 0), (183, .lcmp, 1, 0, 0, 0), (184, .ifCond .eq 5, 3, 0, 0, 0), (187, .iconst 0, 1, 0, 0, 0), (188, .ireturn, 1, 0, 0, 1), (189, .aload_n 0, 1, 0, 0, 0), (190, .iconst 2, 1, 2, 0, 0), (191, .invokevirtual 13, 3, 105, 1, 8)],
  [(194, .istore 12, 2, 0, 0, 0), (196, .iload 12, 2, 0, 0, 0), (198, .iconst 2, 1, 2, 0, 0), (199, .if_icmp .ge 47, 3, 0, 0, 0), (202, .aload_n 0, 1, 0, 0, 0), (203, .iload 12, 2, 0, 0, 0), (205, .iconst 1, 1, 1, 0, 0), (206, .iadd, 1, 0, 0, 0), (207, .invokevirtual 70, 3, 57, 1, 8)],
  [(210, .iload 12, 2, 0, 0, 0), (212, .if_icmp .ne 32, 3, 0, 0, 0), (215, .aload_n 0, 1, 0, 0, 0), (216, .iload_n 3, 1, 0, 0, 0), (217, .iconst 3, 1, 3, 0, 0), (218, .invokevirtual 19, 3, 71, 2, 8), (221, .iload 8, 2, 0, 0, 0), (223, .if_icmp .lt 21, 3, 0, 0, 0)],
  [(226, .aload_n 0, 1, 0, 0, 0), (227, .iload_n 3, 1, 0, 0, 0), (228, .iconst 5, 1, 5, 0, 0), (229, .invokevirtual 19, 3, 71, 2, 8), (232, .iload 10, 2, 0, 0, 0), (234, .if_icmp .lt 10, 3, 0, 0, 0), (237, .aload_n 0, 1, 0, 0, 0), (238, .invokevirtual 76, 3, 60, 0, 8)],
  [(241, .ifCond .ge 5, 3, 0, 0, 0), (244, .iconst 0, 1, 0, 0, 0), (245, .ireturn, 1, 0, 0, 1), (246, .aload_n 0, 1, 0, 0, 0), (247, .invokestatic 79, 3, 109, 1, 0), (250, .lload 6, 2, 0, 0, 0), (252, .lcmp, 1, 0, 0, 0), (253, .ifCond .ne 18, 3, 0, 0, 0)],
  [(256, .aload_n 0, 1, 0, 0, 0), (257, .iload_n 3, 1, 0, 0, 0), (258, .iconst 5, 1, 5, 0, 0), (259, .invokevirtual 19, 3, 71, 2, 8), (262, .iload 10, 2, 0, 0, 0), (264, .if_icmp .ne 7, 3, 0, 0, 0), (267, .iconst 1, 1, 1, 0, 0), (268, .goto 4, 3, 0, 0, 0), (271, .iconst 0, 1, 0, 0, 0)],
  [(272, .ireturn, 1, 0, 0, 1)]]
/-- WornSumsLaw.law([I)Z -/
def pc_116 : List (List (Nat × smI)) := [[(0, .new 14, 3, 7, 0, 0), (3, .dup, 1, 0, 0, 0), (4, .invokespecial 89, 3, 26, 0, 1), (7, .astore_n 1, 1, 0, 0, 0), (8, .bipush 8, 2, 8, 0, 0), (10, .newarray .long, 2, 0, 0, 0), (12, .astore_n 2, 1, 0, 0, 0), (13, .iconst 0, 1, 0, 0, 0), (14, .istore_n 3, 1, 0, 0, 0), (15, .aload_n 1, 1, 0, 0, 0)],
  [(16, .invokestatic 90, 3, 111, 1, 0), (19, .ifCond .eq 10, 3, 0, 0, 0), (22, .aload_n 1, 1, 0, 0, 0), (23, .invokestatic 93, 3, 110, 1, 0), (26, .ifCond .ne 5, 3, 0, 0, 0), (29, .iconst 0, 1, 0, 0, 0), (30, .ireturn, 1, 0, 0, 1), (31, .iconst 0, 1, 0, 0, 0)],
  [(32, .istore 4, 2, 0, 0, 0), (34, .iload 4, 2, 0, 0, 0), (36, .bipush 28, 2, 28, 0, 0), (38, .if_icmp .ge 455, 3, 0, 0, 0), (41, .aload_n 0, 1, 0, 0, 0), (42, .iconst 2, 1, 2, 0, 0), (43, .iload 4, 2, 0, 0, 0), (45, .imul, 1, 0, 0, 0), (46, .invokestatic 96, 3, 107, 2, 0)],
  [(49, .istore 5, 2, 0, 0, 0), (51, .aload_n 0, 1, 0, 0, 0), (52, .iconst 2, 1, 2, 0, 0), (53, .iload 4, 2, 0, 0, 0), (55, .imul, 1, 0, 0, 0), (56, .iconst 1, 1, 1, 0, 0), (57, .iadd, 1, 0, 0, 0), (58, .invokestatic 96, 3, 107, 2, 0), (61, .istore 6, 2, 0, 0, 0), (63, .aload_n 1, 1, 0, 0, 0)],
  [(64, .invokestatic 79, 3, 109, 1, 0), (67, .lstore 7, 2, 0, 0, 0), (69, .aload_n 1, 1, 0, 0, 0), (70, .iconst 0, 1, 0, 0, 0), (71, .invokevirtual 13, 3, 105, 1, 8), (74, .istore 9, 2, 0, 0, 0), (76, .iload 4, 2, 0, 0, 0), (78, .iconst 3, 1, 3, 0, 0), (79, .if_icmp .lt 14, 3, 0, 0, 0)],
  [(82, .iload 5, 2, 0, 0, 0), (84, .bipush 20, 2, 20, 0, 0), (86, .ishr, 1, 0, 0, 0), (87, .bipush 7, 2, 7, 0, 0), (89, .iand, 1, 0, 0, 0), (90, .ifCond .ne 7, 3, 0, 0, 0), (93, .iconst 1, 1, 1, 0, 0), (94, .goto 4, 3, 0, 0, 0)],
  [(97, .iconst 0, 1, 0, 0, 0), (98, .istore 10, 2, 0, 0, 0), (100, .iload 10, 2, 0, 0, 0), (102, .ifCond .ne 19, 3, 0, 0, 0), (105, .iload 5, 2, 0, 0, 0), (107, .bipush 16, 2, 16, 0, 0), (109, .invokestatic 44, 3, 108, 2, 0)],
  [(112, .bipush 13, 2, 13, 0, 0), (114, .if_icmp .le 7, 3, 0, 0, 0), (117, .iconst 1, 1, 1, 0, 0), (118, .goto 4, 3, 0, 0, 0), (121, .iconst 0, 1, 0, 0, 0), (122, .istore 11, 2, 0, 0, 0), (124, .iload 10, 2, 0, 0, 0), (126, .ifCond .eq 36, 3, 0, 0, 0)],
  [(129, .aload_n 1, 1, 0, 0, 0), (130, .iload 5, 2, 0, 0, 0), (132, .iconst 2, 1, 2, 0, 0), (133, .ishr, 1, 0, 0, 0), (134, .iload 6, 2, 0, 0, 0), (136, .invokestatic 100, 3, 112, 3, 0), (139, .ifCond .ne 5, 3, 0, 0, 0), (142, .iconst 0, 1, 0, 0, 0), (143, .ireturn, 1, 0, 0, 1)],
  [(144, .iload 9, 2, 0, 0, 0), (146, .bipush 6, 2, 6, 0, 0), (148, .if_icmp .ne 8, 3, 0, 0, 0), (151, .bipush (-2), 2, 2, 1, 0), (153, .goto 4, 3, 0, 0, 0), (156, .iconst 1, 1, 1, 0, 0), (157, .istore 12, 2, 0, 0, 0), (159, .goto 55, 3, 0, 0, 0)],
  [(162, .aload_n 1, 1, 0, 0, 0), (163, .bipush 6, 2, 6, 0, 0), (165, .invokevirtual 13, 3, 105, 1, 8), (168, .istore 13, 2, 0, 0, 0), (170, .aload_n 1, 1, 0, 0, 0), (171, .iload 5, 2, 0, 0, 0), (173, .iload 6, 2, 0, 0, 0), (175, .invokestatic 103, 3, 113, 3, 0)],
  [(178, .istore 12, 2, 0, 0, 0), (180, .iload 11, 2, 0, 0, 0), (182, .ifCond .ne 24, 3, 0, 0, 0), (185, .aload_n 1, 1, 0, 0, 0), (186, .bipush 6, 2, 6, 0, 0), (188, .invokevirtual 13, 3, 105, 1, 8), (191, .iload 13, 2, 0, 0, 0)],
  [(193, .if_icmp .gt 13, 3, 0, 0, 0), (196, .aload_n 1, 1, 0, 0, 0), (197, .invokestatic 79, 3, 109, 1, 0), (200, .lload 7, 2, 0, 0, 0), (202, .lcmp, 1, 0, 0, 0), (203, .ifCond .eq 7, 3, 0, 0, 0), (206, .iconst 1, 1, 1, 0, 0), (207, .goto 5, 3, 0, 0, 0)],
  [(210, .bipush (-2), 2, 2, 1, 0), (212, .istore 12, 2, 0, 0, 0), (214, .iload 11, 2, 0, 0, 0), (216, .ifCond .eq 62, 3, 0, 0, 0), (219, .aload_n 1, 1, 0, 0, 0), (220, .bipush 6, 2, 6, 0, 0), (222, .invokevirtual 13, 3, 105, 1, 8)],
  [(225, .iload_n 3, 1, 0, 0, 0), (226, .ifCond .ne 7, 3, 0, 0, 0), (229, .iconst 0, 1, 0, 0, 0), (230, .goto 6, 3, 0, 0, 0), (233, .iload_n 3, 1, 0, 0, 0), (234, .iconst 1, 1, 1, 0, 0), (235, .isub, 1, 0, 0, 0), (236, .if_icmp .ne 25, 3, 0, 0, 0), (239, .aload_n 1, 1, 0, 0, 0)],
  [(240, .invokestatic 79, 3, 109, 1, 0), (243, .iload_n 3, 1, 0, 0, 0), (244, .ifCond .ne 8, 3, 0, 0, 0), (247, .lload 7, 2, 0, 0, 0), (249, .goto 8, 3, 0, 0, 0), (252, .aload_n 2, 1, 0, 0, 0), (253, .iload_n 3, 1, 0, 0, 0), (254, .iconst 1, 1, 1, 0, 0), (255, .isub, 1, 0, 0, 0)],
  [(256, .laload, 1, 0, 0, 0), (257, .lcmp, 1, 0, 0, 0), (258, .ifCond .eq 5, 3, 0, 0, 0), (261, .iconst 0, 1, 0, 0, 0), (262, .ireturn, 1, 0, 0, 1), (263, .iload_n 3, 1, 0, 0, 0), (264, .iload_n 3, 1, 0, 0, 0), (265, .ifCond .le 7, 3, 0, 0, 0), (268, .iconst 1, 1, 1, 0, 0), (269, .goto 4, 3, 0, 0, 0)],
  [(272, .iconst 0, 1, 0, 0, 0), (273, .isub, 1, 0, 0, 0), (274, .istore_n 3, 1, 0, 0, 0), (275, .goto 77, 3, 0, 0, 0), (278, .iload 12, 2, 0, 0, 0), (280, .iconst 1, 1, 1, 0, 0), (281, .if_icmp .ne 59, 3, 0, 0, 0), (284, .iconst 1, 1, 1, 0, 0), (285, .istore 13, 2, 0, 0, 0), (287, .iload 13, 2, 0, 0, 0)],
  [(289, .bipush 8, 2, 8, 0, 0), (291, .if_icmp .ge 25, 3, 0, 0, 0), (294, .iload_n 3, 1, 0, 0, 0), (295, .bipush 8, 2, 8, 0, 0), (297, .if_icmp .ne 19, 3, 0, 0, 0), (300, .aload_n 2, 1, 0, 0, 0), (301, .iload 13, 2, 0, 0, 0), (303, .iconst 1, 1, 1, 0, 0)],
  [(304, .isub, 1, 0, 0, 0), (305, .aload_n 2, 1, 0, 0, 0), (306, .iload 13, 2, 0, 0, 0), (308, .laload, 1, 0, 0, 0), (309, .lastore, 1, 0, 0, 0), (310, .iinc 13 1, 3, 1, 0, 0), (313, .goto (-26), 3, 0, 0, 0), (316, .iload_n 3, 1, 0, 0, 0), (317, .bipush 8, 2, 8, 0, 0), (319, .if_icmp .ne 8, 3, 0, 0, 0)],
  [(322, .bipush 7, 2, 7, 0, 0), (324, .goto 4, 3, 0, 0, 0), (327, .iload_n 3, 1, 0, 0, 0), (328, .istore_n 3, 1, 0, 0, 0), (329, .aload_n 2, 1, 0, 0, 0), (330, .iload_n 3, 1, 0, 0, 0), (331, .lload 7, 2, 0, 0, 0), (333, .lastore, 1, 0, 0, 0), (334, .iinc 3 1, 3, 1, 0, 0)],
  [(337, .goto 15, 3, 0, 0, 0), (340, .aload_n 1, 1, 0, 0, 0), (341, .invokestatic 79, 3, 109, 1, 0), (344, .lload 7, 2, 0, 0, 0), (346, .lcmp, 1, 0, 0, 0), (347, .ifCond .eq 5, 3, 0, 0, 0), (350, .iconst 0, 1, 0, 0, 0), (351, .ireturn, 1, 0, 0, 1)],
  [(352, .aload_n 1, 1, 0, 0, 0), (353, .bipush 6, 2, 6, 0, 0), (355, .invokevirtual 13, 3, 105, 1, 8), (358, .iload_n 3, 1, 0, 0, 0), (359, .if_icmp .eq 5, 3, 0, 0, 0), (362, .iconst 0, 1, 0, 0, 0), (363, .ireturn, 1, 0, 0, 1), (364, .iload 4, 2, 0, 0, 0), (366, .iconst 4, 1, 4, 0, 0), (367, .irem, 1, 0, 0, 0)],
  [(368, .iconst 3, 1, 3, 0, 0), (369, .if_icmp .ne 118, 3, 0, 0, 0), (372, .aload_n 1, 1, 0, 0, 0), (373, .invokestatic 93, 3, 110, 1, 0), (376, .ifCond .eq 21, 3, 0, 0, 0), (379, .aload_n 1, 1, 0, 0, 0), (380, .invokestatic 90, 3, 111, 1, 0), (383, .ifCond .eq 14, 3, 0, 0, 0)],
  [(386, .aload_n 1, 1, 0, 0, 0), (387, .iload 5, 2, 0, 0, 0), (389, .iload 6, 2, 0, 0, 0), (391, .invokestatic 107, 3, 114, 3, 0), (394, .ifCond .ne 5, 3, 0, 0, 0), (397, .iconst 0, 1, 0, 0, 0), (398, .ireturn, 1, 0, 0, 1), (399, .aload_n 1, 1, 0, 0, 0)],
  [(400, .invokestatic 79, 3, 109, 1, 0), (403, .lstore 13, 2, 0, 0, 0), (405, .aload_n 1, 1, 0, 0, 0), (406, .iconst 0, 1, 0, 0, 0), (407, .invokevirtual 83, 3, 102, 1, 8), (410, .aload_n 1, 1, 0, 0, 0), (411, .iconst 0, 1, 0, 0, 0), (412, .invokevirtual 13, 3, 105, 1, 8), (415, .if_icmp .ne 44, 3, 0, 0, 0)],
  [(418, .aload_n 1, 1, 0, 0, 0), (419, .iconst 0, 1, 0, 0, 0), (420, .invokevirtual 86, 3, 103, 1, 8), (423, .aload_n 1, 1, 0, 0, 0), (424, .iconst 0, 1, 0, 0, 0), (425, .invokevirtual 13, 3, 105, 1, 8), (428, .if_icmp .ne 31, 3, 0, 0, 0), (431, .aload_n 1, 1, 0, 0, 0)],
  [(432, .invokestatic 79, 3, 109, 1, 0), (435, .lload 13, 2, 0, 0, 0), (437, .lcmp, 1, 0, 0, 0), (438, .ifCond .ne 21, 3, 0, 0, 0), (441, .aload_n 1, 1, 0, 0, 0), (442, .invokevirtual 76, 3, 60, 0, 8), (445, .bipush (-2), 2, 2, 1, 0), (447, .if_icmp .ne 12, 3, 0, 0, 0)],
  [(450, .aload_n 1, 1, 0, 0, 0), (451, .iload 6, 2, 0, 0, 0), (453, .invokestatic 110, 3, 115, 2, 0), (456, .ifCond .ne 5, 3, 0, 0, 0), (459, .iconst 0, 1, 0, 0, 0), (460, .ireturn, 1, 0, 0, 1), (461, .aload_n 1, 1, 0, 0, 0), (462, .invokevirtual 76, 3, 60, 0, 8)],
  [(465, .ifCond .le 8, 3, 0, 0, 0), (468, .iconst 0, 1, 0, 0, 0), (469, .istore_n 3, 1, 0, 0, 0), (470, .goto (-9), 3, 0, 0, 0), (473, .aload_n 1, 1, 0, 0, 0), (474, .invokestatic 79, 3, 109, 1, 0), (477, .lload 13, 2, 0, 0, 0), (479, .lcmp, 1, 0, 0, 0)],
  [(480, .ifCond .eq 5, 3, 0, 0, 0), (483, .iconst 0, 1, 0, 0, 0), (484, .ireturn, 1, 0, 0, 1), (485, .iconst 0, 1, 0, 0, 0), (486, .istore_n 3, 1, 0, 0, 0), (487, .iinc 4 1, 3, 1, 0, 0), (490, .goto (-456), 3, 0, 0, 0), (493, .aload_n 1, 1, 0, 0, 0), (494, .invokestatic 93, 3, 110, 1, 0)],
  [(497, .ifCond .eq 14, 3, 0, 0, 0), (500, .aload_n 1, 1, 0, 0, 0), (501, .invokestatic 90, 3, 111, 1, 0), (504, .ifCond .eq 7, 3, 0, 0, 0), (507, .iconst 1, 1, 1, 0, 0), (508, .goto 4, 3, 0, 0, 0), (511, .iconst 0, 1, 0, 0, 0)],
  [(512, .ireturn, 1, 0, 0, 1)]]
def pp_pc : List (List (List (Nat × smI))) := [pc_0, pc_1, pc_2, pc_3, pc_4, pc_5, pc_6, pc_7, pc_8, pc_9, pc_10, pc_11, pc_12, pc_13, pc_14, pc_15, pc_16, pc_17, pc_18, pc_19, pc_20, pc_21, pc_22, pc_23, pc_24, pc_25, pc_26, pc_27, pc_28, pc_29, pc_30, pc_31, pc_32, pc_33, pc_34, pc_35, pc_36, pc_37, pc_38, pc_39, pc_40, pc_41, pc_42, pc_43, pc_44, pc_45, pc_46, pc_47, pc_48, pc_49, pc_50, pc_51, pc_52, pc_53, pc_54, pc_55, pc_56, pc_57, pc_58, pc_59, pc_60, pc_61, pc_62, pc_63, pc_64, pc_65, pc_66, pc_67, pc_68, pc_69, pc_70, pc_71, pc_72, pc_73, pc_74, pc_75, pc_76, pc_77, pc_78, pc_79, pc_80, pc_81, pc_82, pc_83, pc_84, pc_85, pc_86, pc_87, pc_88, pc_89, pc_90, pc_91, pc_92, pc_93, pc_94, pc_95, pc_96, pc_97, pc_98, pc_99, pc_100, pc_101, pc_102, pc_103, pc_104, pc_105, pc_106, pc_107, pc_108, pc_109, pc_110, pc_111, pc_112, pc_113, pc_114, pc_115, pc_116]
def pp_tr : List (List (Nat × List Nat)) := [[],
  [],
  [(8, [0, 1, 2]), (24, [0, 1, 2])],
  [(10, [0]), (18, [0])],
  [(11, [1, 2]), (26, [1, 2])],
  [(10, [0])],
  [(14, [])],
  [(9, [])],
  [(17, []), (18, [])],
  [(9, [0, 1, 2])],
  [(8, [])],
  [(6, [0, 1])],
  [(4, [0, 1]), (15, [])],
  [(15, []), (16, [])],
  [(4, [0, 1, 2]), (18, [])],
  [(6, [0, 1, 2, 3, 4, 5]), (12, [0, 1, 2, 3, 4, 5]), (21, [0, 1, 2, 3, 4, 5]), (49, [0, 1, 2, 3, 4, 5])],
  [(4, [0, 1]), (17, [])],
  [(4, [0, 1, 2]), (27, [])],
  [(5, [0, 1, 2]), (9, [0, 1, 2, 3, 4]), (24, [0, 1, 2, 3, 4]), (28, [0, 1, 2, 3, 4])],
  [(22, []), (31, [0, 1, 2]), (38, [0, 1, 2]), (44, [])],
  [(2, [0, 1, 2, 3]), (7, [0, 1, 2, 3]), (17, [0, 1, 2, 3]), (20, [0, 1, 2, 3])],
  [(14, [0, 1, 2]), (21, [0, 1, 2]), (32, [0, 1, 2]), (38, [])],
  [(14, []), (34, []), (48, []), (56, [])],
  [(24, [0, 1]), (36, [0, 1])],
  [],
  [(69, [0, 1]), (90, [0, 1])],
  [(12, [0]), (23, [0]), (34, [0]), (42, [0]), (60, [0]), (71, [])],
  [],
  [(11, []), (22, [0]), (37, [])],
  [],
  [(30, []), (31, [])],
  [(16, []), (17, [])],
  [(5, [0, 1]), (21, []), (47, [0, 1]), (59, []), (68, []), (69, []), (80, []), (83, []), (88, [])],
  [(16, []), (17, [])],
  [(15, []), (18, []), (22, []), (23, [])],
  [(5, [0, 1, 2]), (24, [0, 1, 2]), (35, [0, 1, 2]), (38, [0, 1, 2]), (50, [0, 1, 2]), (57, [0, 1, 2]), (79, [0]), (84, [0]), (98, [])],
  [(25, []), (26, [])],
  [(5, [0, 1]), (18, [])],
  [(5, [0, 1, 2]), (15, [])],
  [(18, [0, 1, 2]), (33, [0, 1, 2]), (36, [0, 1, 2])],
  [(31, [0, 1, 2]), (54, [0, 1, 2]), (69, [0, 1, 2])],
  [(11, [0, 1]), (16, [0]), (26, [0])],
  [],
  [(11, [0]), (18, [])],
  [(2, [0, 1]), (15, [0, 1])],
  [(22, [0, 1, 2, 4]), (42, [0, 1, 2, 4]), (45, [0, 1, 2, 4])],
  [(14, [0, 1]), (30, [0, 1, 2]), (50, [0])],
  [(22, [0]), (38, [0]), (49, [0])],
  [(22, []), (23, [])],
  [(5, [0, 1]), (11, [0, 2]), (43, [0, 2]), (60, [0, 2]), (66, [0])],
  [(8, [0, 1]), (17, [0, 1]), (25, [0])],
  [(5, [0, 1, 2]), (17, []), (38, [])],
  [(9, [0, 3]), (22, [0, 3, 4]), (25, []), (33, [0, 3, 4]), (49, []), (56, [3, 4, 5]), (64, [5])],
  [(8, []), (15, [])],
  [(4, [0, 1, 2]), (17, [0, 1, 2]), (25, [0, 1, 2])],
  [(5, [0, 1]), (17, [0, 1]), (26, []), (31, [])],
  [(9, [0, 1, 2, 3, 4]), (22, [0, 1, 2, 3, 4, 5]), (31, [0, 1, 3, 4, 5]), (34, []), (42, [0, 1, 3, 4, 5]), (54, [0, 1, 3, 4, 5]), (63, [0, 1]), (71, [])],
  [(9, []), (31, [0, 1, 2])],
  [(17, []), (19, [0, 1]), (39, [0, 1, 2])],
  [(18, [0, 1]), (34, [0])],
  [(24, [0]), (31, [0])],
  [(6, []), (19, [])],
  [(9, [0, 1, 2, 3]), (24, [0, 1, 2, 3, 4, 5, 6]), (39, [0, 1, 2, 3, 4, 5, 6]), (48, [0, 1, 2, 3, 4, 5, 6, 7]), (62, [0, 1, 2, 3, 4, 5, 6, 7, 8]), (74, [0, 1, 2, 3, 4, 5, 6, 7, 8]), (106, [0, 1, 2, 3, 4, 5, 6]), (125, [])],
  [(19, [])],
  [(15, [2, 3, 4]), (24, [2, 3, 4]), (34, [2, 3, 4]), (47, [2, 3, 4]), (53, [2, 3, 4])],
  [(8, [0, 1]), (26, [0, 2, 3, 4]), (37, [0, 2, 3, 4]), (73, [0, 2, 3, 4, 5, 6]), (92, [0, 2, 3, 4])],
  [(54, [])],
  [(18, [0, 1, 2, 3, 4, 5]), (35, [0, 1, 2, 3, 4, 5]), (43, [0, 1, 2, 3, 4, 5, 6]), (62, [0, 1, 2, 3, 4, 5, 6, 7]), (79, [0, 1, 2, 3, 4, 5, 6, 7]), (104, [0, 1, 2, 3, 4, 5])],
  [(10, [0, 1, 2, 3]), (50, [0, 1, 2, 3]), (56, [0])],
  [(18, []), (19, [])],
  [(15, [0, 1]), (23, [])],
  [(8, [0, 1, 2]), (52, [0, 1]), (61, []), (62, [0, 1]), (71, []), (72, [0, 1]), (80, []), (81, [0, 1]), (86, []), (90, [0, 1]), (95, []), (99, [0, 1]), (104, []), (108, [])],
  [(9, [3]), (22, [3, 4]), (25, []), (35, [])],
  [(9, [0, 2, 3]), (20, [0, 2, 3, 4]), (23, []), (46, []), (55, [])],
  [(30, []), (32, [])],
  [(4, [0, 1, 2, 3]), (17, [0, 1, 2, 3]), (22, [0, 1, 2, 3]), (30, [0, 1, 2, 3]), (37, [0, 1, 2, 3, 4]), (42, [0, 1, 2, 3, 4]), (54, [0, 1, 2, 3, 4]), (55, [0, 1, 2, 3, 4]), (67, [0, 1, 2, 3]), (70, [0, 1, 2, 3])],
  [(2, [0, 1, 2]), (15, [0, 1, 2])],
  [(30, []), (32, [])],
  [(8, [0, 1, 2, 3]), (24, []), (31, [2, 3]), (39, [3, 4]), (62, []), (72, [])],
  [(4, [0, 1, 2]), (12, []), (27, []), (39, [])],
  [(4, [0, 1, 2, 3]), (30, [0, 1, 2, 3]), (36, [2])],
  [(7, [0, 1, 2]), (28, [0, 1, 2]), (44, [0, 1, 2, 3]), (60, [0, 1, 2]), (70, [])],
  [(5, [0, 1, 2, 3])],
  [(21, [])],
  [(6, [0, 1, 2]), (29, []), (36, [2, 4])],
  [(5, [0, 1, 2, 3, 4]), (22, [0, 1, 2, 3, 4]), (41, [0, 1, 2, 4, 5]), (44, [0, 1, 2, 3, 4])],
  [(2, [0, 1, 2, 3]), (23, [0, 1, 2, 3]), (29, [0, 1, 2]), (48, [0, 1, 2]), (60, [0, 2, 3, 4]), (76, [0, 2, 4]), (91, [0, 2, 3, 4, 5]), (127, [0, 2, 3, 4, 5])],
  [(10, []), (15, [0, 1, 2, 3, 4]), (32, [0, 1, 2, 3, 4]), (54, []), (55, [0, 1, 2, 3, 4])],
  [(11, []), (18, [0, 1, 2]), (48, [0, 1, 3, 4]), (94, [0, 1, 3, 4]), (111, [])],
  [(14, [0, 1]), (35, [0, 1, 3]), (52, [0]), (64, [0])],
  [(23, [0, 1]), (24, [0, 1]), (40, [])],
  [(13, [0, 1]), (18, [0, 1]), (33, [0, 1]), (56, [])],
  [(6, [])],
  [(24, []), (25, [])],
  [(2, [0, 1, 2, 3]), (17, [0, 1, 2, 3]), (21, [0, 1, 2, 3])],
  [(8, [0, 1, 3]), (23, [0, 1, 3])],
  [(3, [0, 1, 2, 3, 4]), (29, [0, 1, 2, 3, 4]), (42, [0, 1, 2, 3, 4, 5]), (73, [0, 1, 2, 3, 5]), (99, [0, 1, 2, 3, 4, 5]), (105, [])],
  [(5, [0, 1, 2, 3]), (16, [0, 1, 2, 3]), (39, []), (44, []), (52, [0, 3, 4]), (59, [0, 3, 4, 5, 6]), (78, [0, 3, 4, 5, 6]), (82, [0, 3, 4, 5, 6]), (102, [0, 3, 4, 6]), (104, [0, 3, 4, 5, 6])],
  [(8, [0, 1]), (28, [0, 1]), (50, [])],
  [(8, [0, 1, 2, 3]), (14, [0, 1, 2, 3, 4, 5]), (30, [0, 1, 2, 3, 4, 5]), (34, [0, 1, 2, 3, 4, 5]), (76, [0, 1, 2, 3, 4, 5])],
  [(10, [0, 1, 2, 3, 4, 5, 6]), (25, [0, 1, 2, 3, 4, 5, 6]), (38, [0, 1, 2, 3, 4, 5, 6]), (54, [0, 1, 2, 3, 6, 7]), (62, [0, 1, 2, 3, 4, 5, 6])],
  [(9, [0, 1]), (21, [0, 2]), (48, [])],
  [(9, []), (24, [0, 1])],
  [(9, []), (36, [0]), (51, [0])],
  [(4, [0, 1, 2]), (18, [0, 2])],
  [(44, [0]), (52, [0]), (67, [0]), (81, []), (82, [0]), (90, [0]), (98, [0]), (105, []), (106, [0]), (114, [0]), (122, [])],
  [(18, [2])],
  [(24, [])],
  [],
  [(6, [0, 1, 3]), (21, [0, 3]), (32, [0, 1, 3]), (38, [0, 1, 3]), (44, [0, 1, 3, 4]), (57, [0, 1, 3, 4]), (72, [0, 1, 3, 4, 5, 6]), (93, [0, 3, 4, 5, 6])],
  [(6, [0, 1, 2, 3]), (12, [0, 1, 2, 3]), (21, [0, 1, 2, 3]), (32, [0, 1, 2, 3, 4, 5, 6, 7]), (47, [0, 1, 2, 3, 4, 5, 6, 7]), (57, [0, 1, 2, 3, 4, 5, 6, 7, 8]), (80, [0, 1, 2, 3, 4, 7, 8, 9]), (84, [0, 1, 2, 3, 4, 7, 8, 9]), (85, [0, 1, 2, 3, 4, 7, 8, 9]), (122, [0, 1, 2, 3, 4, 7, 8, 9]), (130, [0, 1, 2, 3, 4, 7, 8, 9]), (134, []), (136, [0, 1, 2, 3, 4, 7, 8, 9]), (155, [0, 1, 2, 3, 4]), (165, [0, 1, 2, 3, 4, 7]), (178, [0, 1, 2, 3, 4, 7]), (189, [0, 1, 2, 3, 4, 7]), (213, [0, 1, 2, 3, 4]), (218, []), (220, [0, 1, 2, 3, 4]), (231, [0, 2, 3]), (240, [0, 1, 3]), (253, [0, 1, 2]), (262, [2]), (270, []), (271, [])],
  [(5, [0]), (11, [0, 1]), (17, [0, 1, 2]), (36, [0, 1, 2, 3, 4, 5, 6, 7, 8, 9]), (54, [0, 1, 2, 3, 4, 5, 6, 8, 9]), (62, [0, 1, 2, 3, 4, 5, 6, 8, 9]), (63, [0, 1, 2, 3, 4, 5, 6, 8, 9]), (74, [0, 1, 2, 3, 4, 5, 6, 7, 9]), (85, [0, 1, 2, 3, 4, 5, 6, 7, 9]), (89, [0, 1, 2, 3, 4, 5, 6, 7, 9]), (101, [0, 1, 2, 3, 4, 5, 7, 8, 9]), (112, [0, 1, 2, 3, 4, 5, 7, 8, 9]), (116, [0, 1, 2, 3, 4, 5, 7, 8, 9]), (125, [0, 1, 2, 3, 4, 5, 6, 7, 8, 9]), (133, [0, 1, 2, 3, 4, 5, 6, 7, 8, 9, 10]), (155, []), (166, [0, 1, 2, 3, 4, 5, 6, 7, 8, 9, 10, 11]), (180, [0, 1, 2, 3, 4, 5, 6, 7, 8, 9, 10, 11]), (199, [0, 1, 2, 3, 4, 5, 6, 7, 8, 9, 10, 11]), (215, [0, 1, 2, 3, 4, 5, 6, 7, 8, 9, 10, 11]), (218, [0, 1, 2, 3, 4, 5, 6, 7, 8, 9, 10, 11]), (225, [0, 1, 2, 3, 4, 5, 6, 7, 8, 9, 10, 11]), (236, []), (238, [0, 1, 2, 3, 4, 5, 6, 7, 8, 9, 10]), (256, [0, 1, 2, 3, 4, 6, 7, 8, 9, 10]), (265, [0, 1, 2, 3, 4, 6, 7, 8, 9]), (269, [0, 1, 2, 3, 4, 5, 6, 7, 8, 9]), (286, [2, 7, 8]), (306, []), (310, []), (311, []), (317, [2, 3, 4, 5, 6]), (338, [3, 6]), (348, []), (349, [])],
  [(7, [0, 2]), (12, [0, 2, 3]), (20, [0, 2, 3]), (28, [0, 2, 3, 4]), (33, [0, 2, 3, 4, 5, 6]), (47, [0, 2, 3, 4, 5, 6]), (80, [0, 2, 3, 5, 6, 7]), (82, [0, 2, 3, 5, 6]), (85, [0, 2, 3, 5, 6]), (96, [0, 2, 3, 5, 6]), (97, [0, 2, 3, 5, 6]), (116, [0, 2, 3, 5]), (127, [0, 2, 3]), (128, [0, 2, 3]), (140, [0, 2, 3, 4, 6, 7, 8]), (172, [0, 2, 3, 4, 7, 8, 9]), (177, [0, 2, 3, 4, 7, 8, 9]), (212, [0, 2, 3, 6, 7, 8]), (215, [0, 2, 3, 6, 7, 8]), (218, [0, 2, 3, 6, 7, 8]), (222, [0, 2, 3, 6, 7, 8]), (223, [0, 2, 3, 6, 7, 8]), (240, [0, 3, 4]), (246, [0, 3, 4, 7]), (271, []), (272, []), (293, [0, 3, 7]), (306, [0, 7]), (318, []), (325, []), (326, [])],
  [(6, [0, 1, 2]), (21, [0, 1, 2, 3]), (38, [0, 1, 2, 3, 4]), (58, [0, 1, 2, 3, 4, 5]), (86, [0, 1, 2, 3, 4, 5, 6]), (89, [0, 1, 2, 3, 4, 5, 6]), (107, []), (154, []), (169, []), (170, []), (173, []), (188, []), (212, []), (215, []), (254, []), (257, []), (264, [])],
  [(4, [0, 1, 2]), (11, [0, 1, 2, 3]), (19, [0, 1, 2, 3, 5]), (22, [0, 1, 2, 3, 5]), (34, [0, 1, 2, 3, 5]), (47, [0, 1, 2, 3, 5]), (60, [0, 1, 2, 3, 5]), (76, [0, 1, 2, 3, 5]), (89, [0, 1, 2, 3, 5]), (100, [0, 1, 2, 3, 5]), (110, [0, 1, 2, 3, 5]), (113, [0, 1, 2, 3, 5]), (132, [0, 1, 2, 3, 5]), (135, [0, 1, 2, 3, 5]), (145, [0, 1, 2, 3, 5]), (148, [0, 1, 2, 3, 5]), (162, [0, 1, 2, 3, 5]), (174, [0, 1, 2, 3, 5]), (189, [0, 1, 2, 3, 5]), (200, [0, 1, 2, 3, 5]), (214, [0, 1, 2, 3, 5]), (225, [0, 1, 2, 3, 5]), (235, [0, 1, 2, 3, 5]), (244, [0, 1, 2, 3, 5]), (254, [0, 1, 2, 3, 5]), (257, [0, 1, 2, 3, 5]), (268, [0, 1, 3, 5]), (277, [0, 1, 3, 5]), (287, [0, 1, 3, 5]), (300, [0, 3, 5]), (308, [0, 3, 5]), (309, [0, 3, 5]), (320, [0, 3, 5]), (331, [5]), (340, []), (341, [])],
  [(5, [0, 1]), (17, [0, 1]), (35, [0, 3, 4]), (38, [0, 3, 4]), (44, [0, 3, 4, 5]), (52, [0, 3, 4, 5, 6]), (60, [0, 3, 4, 5, 6, 8]), (68, [0, 3, 4, 5, 6, 8, 9]), (79, [0, 3, 4, 5, 6, 8, 9, 10]), (92, [0, 3, 4, 5, 6, 8, 9, 10, 11]), (103, [0, 3, 4, 5, 6, 8, 9, 10, 11]), (114, [0, 3, 4, 5, 6, 8, 10, 11]), (128, [0, 3, 4, 5, 6, 8, 10, 11]), (144, [0, 3, 6, 8, 10]), (150, [0, 3, 6, 8, 10]), (157, [0, 3, 6, 8, 10]), (167, [0, 3, 6, 8, 10]), (174, [0, 3, 6, 8, 10]), (181, [0, 3, 6, 8, 10]), (187, []), (189, [0, 3, 6, 8, 10]), (194, [0, 3, 6, 8, 10]), (210, [0, 3, 6, 8, 10, 12]), (221, [0, 3, 6, 8, 10]), (232, [0, 3, 6, 10]), (241, [0, 3, 6, 10]), (244, []), (246, [0, 3, 6, 10]), (250, [0, 3, 6, 10]), (262, [10]), (271, []), (272, [])],
  [(7, [0]), (19, [0, 1, 2, 3]), (26, [0, 1, 2, 3]), (29, []), (34, [0, 1, 2, 3, 4]), (49, [0, 1, 2, 3, 4]), (61, [0, 1, 2, 3, 4, 5]), (67, [0, 1, 2, 3, 4, 5, 6]), (74, [0, 1, 2, 3, 4, 5, 6, 7]), (93, [0, 1, 2, 3, 4, 5, 6, 7, 9]), (98, [0, 1, 2, 3, 4, 5, 6, 7, 9]), (112, [0, 1, 2, 3, 4, 5, 6, 7, 9, 10]), (121, [0, 1, 2, 3, 4, 5, 6, 7, 9, 10]), (122, [0, 1, 2, 3, 4, 5, 6, 7, 9, 10]), (139, [0, 1, 2, 3, 4, 5, 6, 7, 9, 11]), (157, [0, 1, 2, 3, 4, 5, 6, 7, 11]), (168, [0, 1, 2, 3, 4, 5, 6, 7, 11]), (178, [0, 1, 2, 3, 4, 5, 6, 7, 11, 13]), (191, [0, 1, 2, 3, 4, 5, 6, 7, 11, 13]), (200, [0, 1, 2, 3, 4, 5, 6, 7, 11]), (206, [0, 1, 2, 3, 4, 5, 6, 7, 11]), (212, [0, 1, 2, 3, 4, 5, 6, 7, 11]), (214, [0, 1, 2, 3, 4, 5, 6, 7, 11, 12]), (225, [0, 1, 2, 3, 4, 5, 6, 7]), (236, [0, 1, 2, 3, 4, 5, 6, 7]), (243, [0, 1, 2, 3, 4, 5, 6, 7]), (257, [0, 1, 2, 3, 4, 5, 6]), (261, []), (273, [0, 1, 2, 4, 5, 6]), (287, [0, 1, 2, 3, 4, 5, 6, 7, 13]), (316, [0, 1, 2, 3, 4, 5, 6, 7]), (328, [0, 1, 2, 4, 5, 6, 7]), (344, [0, 1, 2, 3, 4, 5, 6, 7]), (352, [0, 1, 2, 3, 4, 5, 6]), (358, [0, 1, 2, 3, 4, 5, 6]), (376, [0, 1, 2, 4, 5, 6]), (383, [0, 1, 2, 4, 5, 6]), (394, [0, 1, 2, 4, 6]), (397, []), (403, [0, 1, 2, 4, 6]), (410, [0, 1, 2, 4, 6, 13]), (415, [0, 1, 2, 4, 6, 13]), (423, [0, 1, 2, 4, 6, 13]), (428, [0, 1, 2, 4, 6, 13]), (435, [0, 1, 2, 4, 6, 13]), (445, [0, 1, 2, 4, 6, 13]), (456, [0, 1, 2, 4, 13]), (459, []), (461, [0, 1, 2, 4, 13]), (465, [0, 1, 2, 4, 13]), (477, [0, 1, 2, 4, 13]), (487, [0, 1, 2, 3, 4]), (497, [1]), (504, []), (511, []), (512, [])]]
def pp_nm : List MethodName := [⟨"WornSums$Text", "<init>", "()V"⟩,
  ⟨"WornSums$Row", "<init>", "(I)V"⟩,
  ⟨"WornSums$Sheet", "newRows", "(I)[LWornSums$Row;"⟩,
  ⟨"WornSums$Sheet", "<init>", "()V"⟩,
  ⟨"WornSums", "newSheets", "(I)[LWornSums$Sheet;"⟩,
  ⟨"WornSums$History", "<init>", "()V"⟩,
  ⟨"java/lang/String", "coder", "()B"⟩,
  ⟨"java/lang/String", "length", "()I"⟩,
  ⟨"java/lang/String", "isLatin1", "()Z"⟩,
  ⟨"jdk/internal/util/Preconditions", "checkIndex", "(IILjava/util/function/BiFunction;)I"⟩,
  ⟨"java/lang/String", "checkIndex", "(II)V"⟩,
  ⟨"java/lang/StringLatin1", "charAt", "([BI)C"⟩,
  ⟨"java/lang/String", "charAt", "(I)C"⟩,
  ⟨"WornSums", "isNumber", "(I)Z"⟩,
  ⟨"WornSums$NumberWords", "addSign", "(IC)V"⟩,
  ⟨"WornSums$NumberWords", "addName", "(ILjava/lang/String;I)V"⟩,
  ⟨"WornSums$NumberWords", "lengthOf", "(I)I"⟩,
  ⟨"WornSums$NumberWords", "at", "(II)I"⟩,
  ⟨"WornSums$NumberWords", "addNumber", "(II)V"⟩,
  ⟨"WornSums$NumberWords", "writeTens", "(I)V"⟩,
  ⟨"WornSums$NumberWords", "addAll", "(ILjava/lang/String;)V"⟩,
  ⟨"WornSums$NumberWords", "writeHundreds", "(I)V"⟩,
  ⟨"WornSums$NumberWords", "write", "(I)V"⟩,
  ⟨"WornSums$NumberWords", "<init>", "()V"⟩,
  ⟨"WornSums$Agreeing", "<init>", "()V"⟩,
  ⟨"WornSums$Findings", "<init>", "()V"⟩,
  ⟨"WornSums", "<init>", "()V"⟩,
  ⟨"WornSums$Text", "add", "(C)Z"⟩,
  ⟨"WornSums", "type", "(I)I"⟩,
  ⟨"WornSums", "clear", "()I"⟩,
  ⟨"WornSums$Text", "at", "(I)C"⟩,
  ⟨"WornSums", "isLetter", "(I)Z"⟩,
  ⟨"WornSums$Text", "standsInWords", "(I)Z"⟩,
  ⟨"WornSums", "isFigureSign", "(I)Z"⟩,
  ⟨"WornSums$Text", "standsInFigures", "(IC)Z"⟩,
  ⟨"WornSums$Text", "fault", "()I"⟩,
  ⟨"WornSums$Row", "hasPlace", "(I)Z"⟩,
  ⟨"WornSums$Row", "at", "(I)C"⟩,
  ⟨"WornSums$Row", "put", "(IC)V"⟩,
  ⟨"WornSums$Row", "copyFrom", "(LWornSums$Row;)V"⟩,
  ⟨"WornSums$Sheet", "copyFrom", "(LWornSums$Sheet;)V"⟩,
  ⟨"WornSums$History", "remember", "(LWornSums$Sheet;)V"⟩,
  ⟨"WornSums$Findings", "forget", "()V"⟩,
  ⟨"WornSums", "startChange", "()V"⟩,
  ⟨"WornSums$Text", "equalsPlace", "()I"⟩,
  ⟨"WornSums$Row", "takeFrom", "(LWornSums$Text;II)V"⟩,
  ⟨"WornSums$Sheet", "addEntry", "(LWornSums$Text;)V"⟩,
  ⟨"WornSums", "tells", "()I"⟩,
  ⟨"WornSums$Sheet", "hasEntry", "(I)Z"⟩,
  ⟨"WornSums$Sheet", "removeEntry", "(I)V"⟩,
  ⟨"WornSums", "drops", "(I)I"⟩,
  ⟨"WornSums$Sheet", "rowOf", "(II)LWornSums$Row;"⟩,
  ⟨"WornSums", "wears", "(III)I"⟩,
  ⟨"WornSums", "canBeMadeOut", "(II)Z"⟩,
  ⟨"WornSums$Row", "worn", "()I"⟩,
  ⟨"WornSums$Sheet", "wornIn", "(I)I"⟩,
  ⟨"WornSums", "makes", "(IIII)I"⟩,
  ⟨"WornSums", "slacks", "(I)I"⟩,
  ⟨"WornSums", "totals", "(I)I"⟩,
  ⟨"WornSums$History", "takeBack", "(LWornSums$Sheet;)V"⟩,
  ⟨"WornSums", "undo", "()I"⟩,
  ⟨"WornSums$Sheet", "lengthOf", "(II)I"⟩,
  ⟨"WornSums$NumberWords", "doubtOf", "(LWornSums$Row;II)I"⟩,
  ⟨"WornSums$Figures", "lengthOf", "(I)I"⟩,
  ⟨"WornSums$Figures", "areAlike", "(II)Z"⟩,
  ⟨"WornSums$Figures", "doubtOf", "(LWornSums$Row;I)I"⟩,
  ⟨"WornSums$Agreeing", "add", "(II)V"⟩,
  ⟨"WornSums$Agreeing", "find", "(LWornSums$Row;LWornSums$Row;ILWornSums$NumberWords;)V"⟩,
  ⟨"WornSums$Findings", "refresh", "(LWornSums$Sheet;LWornSums$NumberWords;)V"⟩,
  ⟨"WornSums$Findings", "agreeingAt", "(I)LWornSums$Agreeing;"⟩,
  ⟨"WornSums", "agreeingOf", "(I)LWornSums$Agreeing;"⟩,
  ⟨"WornSums", "entry", "(II)I"⟩,
  ⟨"WornSums", "sign", "(III)I"⟩,
  ⟨"WornSums", "doubt", "(III)I"⟩,
  ⟨"WornSums$Agreeing", "doubtAt", "(I)I"⟩,
  ⟨"WornSums$Agreeing", "rankOf", "(I)I"⟩,
  ⟨"WornSums$Agreeing", "indexOfRank", "(I)I"⟩,
  ⟨"WornSums$Agreeing", "numberAt", "(I)I"⟩,
  ⟨"WornSums", "ranked", "(III)I"⟩,
  ⟨"WornSums", "word", "(II)I"⟩,
  ⟨"WornSums$Findings", "alteredAmong", "(I)I"⟩,
  ⟨"WornSums$Findings", "findLeastOfAnySum", "(I)V"⟩,
  ⟨"java/util/Arrays", "fill", "([II)V"⟩,
  ⟨"WornSums$Agreeing", "highest", "()I"⟩,
  ⟨"WornSums$Findings", "doubtWith", "(LWornSums$Agreeing;I[II)I"⟩,
  ⟨"WornSums$Findings", "leastAt", "(LWornSums$Agreeing;[II)I"⟩,
  ⟨"WornSums$Findings", "fillLeastBySum", "(II)V"⟩,
  ⟨"WornSums$Findings", "lowestOfLeast", "(LWornSums$Agreeing;[I[II)I"⟩,
  ⟨"WornSums$Findings", "findLeastOfTotal", "(II)V"⟩,
  ⟨"WornSums$Findings", "refreshLeast", "(LWornSums$Sheet;LWornSums$NumberWords;)V"⟩,
  ⟨"WornSums$Findings", "leastNumber", "(I)I"⟩,
  ⟨"WornSums", "least", "(I)I"⟩,
  ⟨"WornSums$History", "slotOf", "(I)I"⟩,
  ⟨"WornSums$Findings", "isReached", "(I)Z"⟩,
  ⟨"WornSums$Findings", "isReachedBy", "(LWornSums$Agreeing;I)Z"⟩,
  ⟨"WornSums$Findings", "reachOn", "(LWornSums$Agreeing;I)V"⟩,
  ⟨"WornSums$Findings", "reachWithout", "(III)V"⟩,
  ⟨"WornSums$Findings", "sureNumber", "(III)I"⟩,
  ⟨"WornSums", "sure", "(I)I"⟩,
  ⟨"WornSums$Findings", "mostOfOneLetter", "(LWornSums$Agreeing;ILWornSums$NumberWords;)I"⟩,
  ⟨"WornSums$Findings", "bestPlace", "(LWornSums$Row;LWornSums$Agreeing;LWornSums$NumberWords;)I"⟩,
  ⟨"WornSums", "look", "(I)I"⟩,
  ⟨"WornSums", "keep", "(I)I"⟩,
  ⟨"WornSums", "back", "(I)I"⟩,
  ⟨"WornSums$Sheet", "wornInAll", "()I"⟩,
  ⟨"WornSums", "count", "(I)I"⟩,
  ⟨"java/lang/Math", "floorMod", "(II)I"⟩,
  ⟨"WornSumsLaw", "cell", "([II)I"⟩,
  ⟨"WornSumsLaw", "low", "(II)I"⟩,
  ⟨"WornSumsLaw", "whole", "(LWornSums;)J"⟩,
  ⟨"WornSumsLaw", "entries", "(LWornSums;)Z"⟩,
  ⟨"WornSumsLaw", "least", "(LWornSums;)Z"⟩,
  ⟨"WornSumsLaw", "type", "(LWornSums;II)Z"⟩,
  ⟨"WornSumsLaw", "does", "(LWornSums;II)I"⟩,
  ⟨"WornSumsLaw", "refused", "(LWornSums;II)Z"⟩,
  ⟨"WornSumsLaw", "wears", "(LWornSums;I)Z"⟩,
  ⟨"WornSumsLaw", "law", "([I)Z"⟩]
def pp_by : List ByteArray := [prog_9_method_1_code, prog_7_method_1_code, prog_8_method_2_code, prog_8_method_1_code, prog_1_method_28_code, prog_5_method_1_code, prog_13_method_152_code, prog_13_method_54_code, prog_13_method_154_code, prog_17_method_11_code, prog_13_method_155_code, prog_14_method_2_code, prog_13_method_56_code, prog_1_method_24_code, prog_6_method_8_code, prog_6_method_5_code, prog_6_method_9_code, prog_6_method_10_code, prog_6_method_7_code, prog_6_method_3_code, prog_6_method_6_code, prog_6_method_4_code, prog_6_method_2_code, prog_6_method_1_code, prog_2_method_1_code, prog_4_method_1_code, prog_1_method_1_code, prog_9_method_2_code, prog_1_method_2_code, prog_1_method_3_code, prog_9_method_3_code, prog_1_method_25_code, prog_9_method_5_code, prog_1_method_26_code, prog_9_method_6_code, prog_9_method_4_code, prog_7_method_2_code, prog_7_method_3_code, prog_7_method_4_code, prog_7_method_6_code, prog_8_method_10_code, prog_5_method_2_code, prog_4_method_2_code, prog_1_method_22_code, prog_9_method_7_code, prog_7_method_5_code, prog_8_method_8_code, prog_1_method_4_code, prog_8_method_3_code, prog_8_method_9_code, prog_1_method_5_code, prog_8_method_4_code, prog_1_method_6_code, prog_1_method_27_code, prog_7_method_7_code, prog_8_method_6_code, prog_1_method_7_code, prog_1_method_8_code, prog_1_method_9_code, prog_5_method_3_code, prog_1_method_10_code, prog_8_method_5_code, prog_6_method_11_code, prog_3_method_3_code, prog_3_method_4_code, prog_3_method_2_code, prog_2_method_3_code, prog_2_method_2_code, prog_4_method_3_code, prog_4_method_4_code, prog_1_method_23_code, prog_1_method_11_code, prog_1_method_12_code, prog_1_method_13_code, prog_2_method_5_code, prog_2_method_8_code, prog_2_method_7_code, prog_2_method_4_code, prog_1_method_14_code, prog_1_method_15_code, prog_4_method_5_code, prog_4_method_8_code, prog_16_method_103_code, prog_2_method_6_code, prog_4_method_12_code, prog_4_method_11_code, prog_4_method_10_code, prog_4_method_13_code, prog_4_method_9_code, prog_4_method_6_code, prog_4_method_7_code, prog_1_method_16_code, prog_5_method_4_code, prog_4_method_15_code, prog_4_method_18_code, prog_4_method_17_code, prog_4_method_16_code, prog_4_method_14_code, prog_1_method_17_code, prog_4_method_20_code, prog_4_method_19_code, prog_1_method_18_code, prog_1_method_19_code, prog_1_method_20_code, prog_8_method_7_code, prog_1_method_21_code, prog_12_method_50_code, method_2_code, method_3_code, method_4_code, method_5_code, method_6_code, method_7_code, method_8_code, method_9_code, method_10_code, code]
def pp_mL : List Nat := [1, 2, 3, 1, 3, 1, 1, 1, 1, 3, 2, 2, 2, 1, 3, 7, 2, 3, 5, 3, 4, 3, 2, 2, 1, 2, 1, 2, 2, 2, 2, 1, 3, 1, 2, 4, 2, 2, 3, 3, 3, 2, 1, 1, 2, 5, 3, 2, 2, 3, 2, 3, 6, 2, 3, 2, 6, 3, 3, 2, 1, 4, 9, 1, 5, 7, 3, 8, 4, 2, 2, 3, 5, 5, 2, 6, 3, 2, 6, 3, 4, 4, 4, 1, 5, 6, 6, 6, 5, 4, 3, 2, 1, 2, 4, 4, 6, 7, 2, 7, 8, 4, 2, 2, 3, 2, 3, 2, 2, 7, 11, 12, 10, 8, 7, 13, 15]
def pp_rt : List (Option FieldType) := [(Option.none : Option Jvm.ClassFile.FieldType), (Option.none : Option Jvm.ClassFile.FieldType), (Option.some (Jvm.ClassFile.FieldType.array (Jvm.ClassFile.FieldType.object "WornSums$Row"))), (Option.none : Option Jvm.ClassFile.FieldType), (Option.some (Jvm.ClassFile.FieldType.array (Jvm.ClassFile.FieldType.object "WornSums$Sheet"))), (Option.none : Option Jvm.ClassFile.FieldType), (Option.some Jvm.ClassFile.FieldType.byte), (Option.some Jvm.ClassFile.FieldType.int), (Option.some Jvm.ClassFile.FieldType.boolean), (Option.some Jvm.ClassFile.FieldType.int), (Option.none : Option Jvm.ClassFile.FieldType), (Option.some Jvm.ClassFile.FieldType.char), (Option.some Jvm.ClassFile.FieldType.char), (Option.some Jvm.ClassFile.FieldType.boolean), (Option.none : Option Jvm.ClassFile.FieldType), (Option.none : Option Jvm.ClassFile.FieldType), (Option.some Jvm.ClassFile.FieldType.int), (Option.some Jvm.ClassFile.FieldType.int), (Option.none : Option Jvm.ClassFile.FieldType), (Option.none : Option Jvm.ClassFile.FieldType), (Option.none : Option Jvm.ClassFile.FieldType), (Option.none : Option Jvm.ClassFile.FieldType), (Option.none : Option Jvm.ClassFile.FieldType), (Option.none : Option Jvm.ClassFile.FieldType), (Option.none : Option Jvm.ClassFile.FieldType), (Option.none : Option Jvm.ClassFile.FieldType), (Option.none : Option Jvm.ClassFile.FieldType), (Option.some Jvm.ClassFile.FieldType.boolean), (Option.some Jvm.ClassFile.FieldType.int), (Option.some Jvm.ClassFile.FieldType.int), (Option.some Jvm.ClassFile.FieldType.char), (Option.some Jvm.ClassFile.FieldType.boolean), (Option.some Jvm.ClassFile.FieldType.boolean), (Option.some Jvm.ClassFile.FieldType.boolean), (Option.some Jvm.ClassFile.FieldType.boolean), (Option.some Jvm.ClassFile.FieldType.int), (Option.some Jvm.ClassFile.FieldType.boolean), (Option.some Jvm.ClassFile.FieldType.char), (Option.none : Option Jvm.ClassFile.FieldType), (Option.none : Option Jvm.ClassFile.FieldType), (Option.none : Option Jvm.ClassFile.FieldType), (Option.none : Option Jvm.ClassFile.FieldType), (Option.none : Option Jvm.ClassFile.FieldType), (Option.none : Option Jvm.ClassFile.FieldType), (Option.some Jvm.ClassFile.FieldType.int), (Option.none : Option Jvm.ClassFile.FieldType), (Option.none : Option Jvm.ClassFile.FieldType), (Option.some Jvm.ClassFile.FieldType.int), (Option.some Jvm.ClassFile.FieldType.boolean), (Option.none : Option Jvm.ClassFile.FieldType), (Option.some Jvm.ClassFile.FieldType.int), (Option.some (Jvm.ClassFile.FieldType.object "WornSums$Row")), (Option.some Jvm.ClassFile.FieldType.int), (Option.some Jvm.ClassFile.FieldType.boolean), (Option.some Jvm.ClassFile.FieldType.int), (Option.some Jvm.ClassFile.FieldType.int), (Option.some Jvm.ClassFile.FieldType.int), (Option.some Jvm.ClassFile.FieldType.int), (Option.some Jvm.ClassFile.FieldType.int), (Option.none : Option Jvm.ClassFile.FieldType), (Option.some Jvm.ClassFile.FieldType.int), (Option.some Jvm.ClassFile.FieldType.int), (Option.some Jvm.ClassFile.FieldType.int), (Option.some Jvm.ClassFile.FieldType.int), (Option.some Jvm.ClassFile.FieldType.boolean), (Option.some Jvm.ClassFile.FieldType.int), (Option.none : Option Jvm.ClassFile.FieldType), (Option.none : Option Jvm.ClassFile.FieldType), (Option.none : Option Jvm.ClassFile.FieldType), (Option.some (Jvm.ClassFile.FieldType.object "WornSums$Agreeing")), (Option.some (Jvm.ClassFile.FieldType.object "WornSums$Agreeing")), (Option.some Jvm.ClassFile.FieldType.int), (Option.some Jvm.ClassFile.FieldType.int), (Option.some Jvm.ClassFile.FieldType.int), (Option.some Jvm.ClassFile.FieldType.int), (Option.some Jvm.ClassFile.FieldType.int), (Option.some Jvm.ClassFile.FieldType.int), (Option.some Jvm.ClassFile.FieldType.int), (Option.some Jvm.ClassFile.FieldType.int), (Option.some Jvm.ClassFile.FieldType.int), (Option.some Jvm.ClassFile.FieldType.int), (Option.none : Option Jvm.ClassFile.FieldType), (Option.none : Option Jvm.ClassFile.FieldType), (Option.some Jvm.ClassFile.FieldType.int), (Option.some Jvm.ClassFile.FieldType.int), (Option.some Jvm.ClassFile.FieldType.int), (Option.none : Option Jvm.ClassFile.FieldType), (Option.some Jvm.ClassFile.FieldType.int), (Option.none : Option Jvm.ClassFile.FieldType), (Option.none : Option Jvm.ClassFile.FieldType), (Option.some Jvm.ClassFile.FieldType.int), (Option.some Jvm.ClassFile.FieldType.int), (Option.some Jvm.ClassFile.FieldType.int), (Option.some Jvm.ClassFile.FieldType.boolean), (Option.some Jvm.ClassFile.FieldType.boolean), (Option.none : Option Jvm.ClassFile.FieldType), (Option.none : Option Jvm.ClassFile.FieldType), (Option.some Jvm.ClassFile.FieldType.int), (Option.some Jvm.ClassFile.FieldType.int), (Option.some Jvm.ClassFile.FieldType.int), (Option.some Jvm.ClassFile.FieldType.int), (Option.some Jvm.ClassFile.FieldType.int), (Option.some Jvm.ClassFile.FieldType.int), (Option.some Jvm.ClassFile.FieldType.int), (Option.some Jvm.ClassFile.FieldType.int), (Option.some Jvm.ClassFile.FieldType.int), (Option.some Jvm.ClassFile.FieldType.int), (Option.some Jvm.ClassFile.FieldType.int), (Option.some Jvm.ClassFile.FieldType.int), (Option.some Jvm.ClassFile.FieldType.long), (Option.some Jvm.ClassFile.FieldType.boolean), (Option.some Jvm.ClassFile.FieldType.boolean), (Option.some Jvm.ClassFile.FieldType.boolean), (Option.some Jvm.ClassFile.FieldType.int), (Option.some Jvm.ClassFile.FieldType.boolean), (Option.some Jvm.ClassFile.FieldType.boolean), (Option.some Jvm.ClassFile.FieldType.boolean)]
def pp_fr : List Nat := [1, 1, 2, 3, 4, 5, 0, 1, 0, 0, 1, 2, 3, 0, 1, 4, 1, 1, 2, 5, 4, 5, 6, 7, 1, 2, 8, 0, 1, 0, 0, 0, 1, 0, 1, 2, 0, 1, 1, 2, 3, 4, 0, 5, 1, 2, 3, 6, 0, 3, 6, 1, 6, 1, 2, 3, 6, 6, 6, 4, 5, 2, 2, 0, 4, 5, 0, 6, 7, 0, 8, 9, 2, 6, 0, 1, 2, 0, 9, 2, 0, 3, 0, 1, 1, 2, 3, 2, 4, 8, 0, 9, 1, 0, 1, 2, 3, 4, 8, 2, 3, 9, 4, 4, 4, 8, 0, 0, 0, 10, 10, 10, 10, 7, 11, 11, 15]
def pp_lo : List Nat := [20, 21, 42, 64, 84, 106, 0, 20, 0, 0, 22, 43, 64, 0, 20, 85, 20, 20, 42, 111, 85, 108, 133, 154, 20, 40, 175, 0, 21, 0, 0, 0, 21, 0, 20, 43, 0, 21, 21, 43, 65, 87, 0, 108, 21, 43, 67, 128, 0, 65, 128, 21, 128, 20, 42, 64, 128, 128, 128, 87, 108, 43, 42, 0, 85, 109, 0, 135, 162, 0, 185, 206, 43, 135, 0, 21, 46, 0, 206, 42, 0, 68, 0, 21, 21, 45, 70, 45, 95, 185, 0, 208, 22, 0, 21, 44, 67, 92, 185, 42, 68, 206, 87, 87, 85, 185, 0, 0, 0, 228, 231, 231, 228, 153, 254, 254, 614]
def pp_ST : List (String × String × String × Value) := [("java/lang/String", "COMPACT_STRINGS", "Z", .int 1), ("jdk/internal/util/Preconditions", "SIOOBE_FORMATTER", "Ljava/util/function/BiFunction;", .retAddr 41)]
def pp_SC : List (String × Nat × String × Nat) := [("WornSums$NumberWords", 23, "zero one two three four five six seven eight nine", 0), ("WornSums$NumberWords", 29, "ten eleven twelve thirteen fourteen fifteen sixteen seventeen eighteen nineteen", 1), ("WornSums$NumberWords", 37, "twenty thirty forty fifty sixty seventy eighty ninety", 2), ("WornSums$NumberWords", 47, " hundred", 3), ("WornSums$NumberWords", 53, " and ", 4), ("WornSums$Figures", 38, "06081738495668", 5)]
def pp_nw : List Cond := [(Jvm.Cond.methodLinkNest "WornSums" (11 : Nat) ({ cls := "WornSums$Text", name := "<init>", desc := "()V" } : Jvm.MethodName) "WornSums"),
  (Jvm.Cond.fieldLinkNest "WornSums" (60 : Nat) "WornSums$Text" "length" "I" "WornSums"),
  (Jvm.Cond.fieldLinkNest "WornSums$Sheet" (65 : Nat) "WornSums$Text" "length" "I" "WornSums"),
  (Jvm.Cond.methodLinkNest "WornSums" (18 : Nat) ({ cls := "WornSums$Sheet", name := "<init>", desc := "()V" } : Jvm.MethodName) "WornSums"),
  (Jvm.Cond.fieldLinkNest "WornSums$Figures" (9 : Nat) "WornSums$Row" "length" "I" "WornSums"),
  (Jvm.Cond.fieldLinkNest "WornSums$Sheet" (45 : Nat) "WornSums$Row" "length" "I" "WornSums"),
  (Jvm.Cond.fieldLinkNest "WornSums$NumberWords" (77 : Nat) "WornSums$Row" "length" "I" "WornSums"),
  (Jvm.Cond.fieldLinkNest "WornSums$Findings" (144 : Nat) "WornSums$Row" "length" "I" "WornSums"),
  (Jvm.Cond.fieldLinkNest "WornSums$Findings" (50 : Nat) "WornSums$Sheet" "words" "[LWornSums$Row;" "WornSums"),
  (Jvm.Cond.fieldLinkNest "WornSums$Findings" (54 : Nat) "WornSums$Sheet" "figures" "[LWornSums$Row;" "WornSums"),
  (Jvm.Cond.fieldLinkNest "WornSums$Findings" (45 : Nat) "WornSums$Sheet" "size" "I" "WornSums"),
  (Jvm.Cond.fieldLinkNest "WornSums" (64 : Nat) "WornSums$Sheet" "size" "I" "WornSums"),
  (Jvm.Cond.fieldLinkNest "WornSums$Findings" (57 : Nat) "WornSums$Sheet" "slack" "I" "WornSums"),
  (Jvm.Cond.fieldLinkNest "WornSums" (111 : Nat) "WornSums$Sheet" "slack" "I" "WornSums"),
  (Jvm.Cond.fieldLinkNest "WornSums$Findings" (79 : Nat) "WornSums$Sheet" "total" "I" "WornSums"),
  (Jvm.Cond.fieldLinkNest "WornSums" (114 : Nat) "WornSums$Sheet" "total" "I" "WornSums"),
  (Jvm.Cond.methodLinkNest "WornSums" (25 : Nat) ({ cls := "WornSums$History", name := "<init>", desc := "()V" } : Jvm.MethodName) "WornSums"),
  (Jvm.Cond.methodLinkNest "WornSums$History" (9 : Nat) ({ cls := "WornSums", name := "newSheets", desc := "(I)[LWornSums$Sheet;" } : Jvm.MethodName) "WornSums"),
  (Jvm.Cond.fieldLinkNest "WornSums" (117 : Nat) "WornSums$History" "size" "I" "WornSums"),
  (Jvm.Cond.methodLinkNest "WornSums$NumberWords" (73 : Nat) ({ cls := "WornSums", name := "isNumber", desc := "(I)Z" } : Jvm.MethodName) "WornSums"),
  (Jvm.Cond.methodLinkNest "WornSums$Findings" (44 : Nat) ({ cls := "WornSums$Agreeing", name := "<init>", desc := "()V" } : Jvm.MethodName) "WornSums"),
  (Jvm.Cond.fieldLinkNest "WornSums$Findings" (64 : Nat) "WornSums$Agreeing" "size" "I" "WornSums"),
  (Jvm.Cond.fieldLinkNest "WornSums" (141 : Nat) "WornSums$Agreeing" "size" "I" "WornSums"),
  (Jvm.Cond.fieldLinkNest "WornSums" (133 : Nat) "WornSums$Agreeing" "byWords" "I" "WornSums"),
  (Jvm.Cond.fieldLinkNest "WornSums" (138 : Nat) "WornSums$Agreeing" "byFigures" "I" "WornSums"),
  (Jvm.Cond.fieldLinkNest "WornSums" (171 : Nat) "WornSums$Findings" "leastDoubt" "I" "WornSums"),
  (Jvm.Cond.methodLinkNest "WornSums$Text" (31 : Nat) ({ cls := "WornSums", name := "isLetter", desc := "(I)Z" } : Jvm.MethodName) "WornSums"),
  (Jvm.Cond.methodLinkNest "WornSums$Text" (34 : Nat) ({ cls := "WornSums", name := "isFigureSign", desc := "(I)Z" } : Jvm.MethodName) "WornSums"),
  (Jvm.Cond.arrayOver (Jvm.ClassFile.FieldType.object "WornSums$Row")),
  (Jvm.Cond.arrayOver (Jvm.ClassFile.FieldType.object "WornSums$Sheet")),
  (Jvm.Cond.arrayOver (Jvm.ClassFile.FieldType.object "WornSums$Agreeing")),
  (Jvm.Cond.arrayOver (Jvm.ClassFile.FieldType.array Jvm.ClassFile.FieldType.int))]
def PP : smP := (fun m => pp_pc.getD m [], fun c k => (pp_ty.getD c []).getD k .int, fun c => pp_df.getD c [], fun c => .object (pp_cn.getD c ""), pp_st, fun m => pp_tr.getD m [])
def PZ : smZ := (tbG, pp_nw, pp_cl, fun m => pp_nm.getD m ⟨"", "", ""⟩, fun m => pp_by.getD m ByteArray.empty, fun m => pp_mL.getD m 0, fun m => pp_rt.getD m none, fun m => (pp_nm.getD m ⟨"", "", ""⟩).cls, fun m => pp_fr.getD m 0, fun m => pp_lo.getD m 0, pp_ST, pp_SC, 117)
