/-! the tables' words (the skeleton's part A), then the program itself as data, printed by wip/whole/gen.py out of the claim's printed texts -/
/-- a private method of a class that the tables say can be made, by its rows of tables_1 -/
def lw_okq (q : MethodName × Nat) : Prop := (q.1.cls ≠ "java/lang/invoke/MethodHandle" ∧ q.1.cls ≠ "java/lang/invoke/VarHandle") ∧ Cond.instantiable q.1.cls q.2 ∈ tables_1 ∧ Cond.privateMethod q.1 ∈ tables_1 ∧ Cond.instanceMethod q.1 ∈ tables_1
theorem lw_p0 : lw_okq (⟨"WornSums$NumberWords", "write", "(I)V"⟩, 2) := ⟨⟨by decide +kernel, by decide +kernel⟩, List.mem_of_getElem? (i := 119) (by decide +kernel), List.mem_of_getElem? (i := 125) (by decide +kernel), List.mem_of_getElem? (i := 126) (by decide +kernel)⟩
theorem lw_p1 : lw_okq (⟨"WornSums$NumberWords", "addName", "(ILjava/lang/String;I)V"⟩, 2) := ⟨⟨by decide +kernel, by decide +kernel⟩, List.mem_of_getElem? (i := 119) (by decide +kernel), List.mem_of_getElem? (i := 130) (by decide +kernel), List.mem_of_getElem? (i := 131) (by decide +kernel)⟩
theorem lw_p2 : lw_okq (⟨"WornSums$NumberWords", "addSign", "(IC)V"⟩, 2) := ⟨⟨by decide +kernel, by decide +kernel⟩, List.mem_of_getElem? (i := 119) (by decide +kernel), List.mem_of_getElem? (i := 182) (by decide +kernel), List.mem_of_getElem? (i := 183) (by decide +kernel)⟩
theorem lw_p3 : lw_okq (⟨"WornSums$NumberWords", "writeTens", "(I)V"⟩, 2) := ⟨⟨by decide +kernel, by decide +kernel⟩, List.mem_of_getElem? (i := 119) (by decide +kernel), List.mem_of_getElem? (i := 190) (by decide +kernel), List.mem_of_getElem? (i := 191) (by decide +kernel)⟩
theorem lw_p4 : lw_okq (⟨"WornSums$NumberWords", "addNumber", "(II)V"⟩, 2) := ⟨⟨by decide +kernel, by decide +kernel⟩, List.mem_of_getElem? (i := 119) (by decide +kernel), List.mem_of_getElem? (i := 195) (by decide +kernel), List.mem_of_getElem? (i := 196) (by decide +kernel)⟩
theorem lw_p5 : lw_okq (⟨"WornSums$NumberWords", "writeHundreds", "(I)V"⟩, 2) := ⟨⟨by decide +kernel, by decide +kernel⟩, List.mem_of_getElem? (i := 119) (by decide +kernel), List.mem_of_getElem? (i := 207) (by decide +kernel), List.mem_of_getElem? (i := 208) (by decide +kernel)⟩
theorem lw_p6 : lw_okq (⟨"WornSums$NumberWords", "addAll", "(ILjava/lang/String;)V"⟩, 2) := ⟨⟨by decide +kernel, by decide +kernel⟩, List.mem_of_getElem? (i := 119) (by decide +kernel), List.mem_of_getElem? (i := 212) (by decide +kernel), List.mem_of_getElem? (i := 213) (by decide +kernel)⟩
theorem lw_p7 : lw_okq (⟨"WornSums$Text", "standsInWords", "(I)Z"⟩, 2) := ⟨⟨by decide +kernel, by decide +kernel⟩, List.mem_of_getElem? (i := 26) (by decide +kernel), List.mem_of_getElem? (i := 330) (by decide +kernel), List.mem_of_getElem? (i := 331) (by decide +kernel)⟩
theorem lw_p8 : lw_okq (⟨"WornSums", "startChange", "()V"⟩, 7) := ⟨⟨by decide +kernel, by decide +kernel⟩, List.mem_of_getElem? (i := 18) (by decide +kernel), List.mem_of_getElem? (i := 347) (by decide +kernel), List.mem_of_getElem? (i := 348) (by decide +kernel)⟩
theorem lw_p9 : lw_okq (⟨"WornSums", "agreeingOf", "(I)LWornSums$Agreeing;"⟩, 7) := ⟨⟨by decide +kernel, by decide +kernel⟩, List.mem_of_getElem? (i := 18) (by decide +kernel), List.mem_of_getElem? (i := 469) (by decide +kernel), List.mem_of_getElem? (i := 470) (by decide +kernel)⟩
theorem lw_p10 : lw_okq (⟨"WornSums$Agreeing", "add", "(II)V"⟩, 5) := ⟨⟨by decide +kernel, by decide +kernel⟩, List.mem_of_getElem? (i := 236) (by decide +kernel), List.mem_of_getElem? (i := 501) (by decide +kernel), List.mem_of_getElem? (i := 502) (by decide +kernel)⟩
theorem lw_p11 : lw_okq (⟨"WornSums$Agreeing", "rankOf", "(I)I"⟩, 5) := ⟨⟨by decide +kernel, by decide +kernel⟩, List.mem_of_getElem? (i := 236) (by decide +kernel), List.mem_of_getElem? (i := 528) (by decide +kernel), List.mem_of_getElem? (i := 529) (by decide +kernel)⟩
theorem lw_p12 : lw_okq (⟨"WornSums$Findings", "findLeastOfAnySum", "(I)V"⟩, 8) := ⟨⟨by decide +kernel, by decide +kernel⟩, List.mem_of_getElem? (i := 227) (by decide +kernel), List.mem_of_getElem? (i := 561) (by decide +kernel), List.mem_of_getElem? (i := 562) (by decide +kernel)⟩
theorem lw_p13 : lw_okq (⟨"WornSums$Findings", "findLeastOfTotal", "(II)V"⟩, 8) := ⟨⟨by decide +kernel, by decide +kernel⟩, List.mem_of_getElem? (i := 227) (by decide +kernel), List.mem_of_getElem? (i := 568) (by decide +kernel), List.mem_of_getElem? (i := 569) (by decide +kernel)⟩
theorem lw_p14 : lw_okq (⟨"WornSums$Findings", "fillLeastBySum", "(II)V"⟩, 8) := ⟨⟨by decide +kernel, by decide +kernel⟩, List.mem_of_getElem? (i := 227) (by decide +kernel), List.mem_of_getElem? (i := 572) (by decide +kernel), List.mem_of_getElem? (i := 573) (by decide +kernel)⟩
theorem lw_p15 : lw_okq (⟨"WornSums$Findings", "reachWithout", "(III)V"⟩, 8) := ⟨⟨by decide +kernel, by decide +kernel⟩, List.mem_of_getElem? (i := 227) (by decide +kernel), List.mem_of_getElem? (i := 606) (by decide +kernel), List.mem_of_getElem? (i := 607) (by decide +kernel)⟩
def lw_privs_1 : List (MethodName × Nat) := [(⟨"WornSums$NumberWords", "write", "(I)V"⟩, 2), (⟨"WornSums$NumberWords", "addName", "(ILjava/lang/String;I)V"⟩, 2), (⟨"WornSums$NumberWords", "addSign", "(IC)V"⟩, 2), (⟨"WornSums$NumberWords", "writeTens", "(I)V"⟩, 2), (⟨"WornSums$NumberWords", "addNumber", "(II)V"⟩, 2), (⟨"WornSums$NumberWords", "writeHundreds", "(I)V"⟩, 2), (⟨"WornSums$NumberWords", "addAll", "(ILjava/lang/String;)V"⟩, 2), (⟨"WornSums$Text", "standsInWords", "(I)Z"⟩, 2), (⟨"WornSums", "startChange", "()V"⟩, 7), (⟨"WornSums", "agreeingOf", "(I)LWornSums$Agreeing;"⟩, 7), (⟨"WornSums$Agreeing", "add", "(II)V"⟩, 5), (⟨"WornSums$Agreeing", "rankOf", "(I)I"⟩, 5), (⟨"WornSums$Findings", "findLeastOfAnySum", "(I)V"⟩, 8), (⟨"WornSums$Findings", "findLeastOfTotal", "(II)V"⟩, 8), (⟨"WornSums$Findings", "fillLeastBySum", "(II)V"⟩, 8), (⟨"WornSums$Findings", "reachWithout", "(III)V"⟩, 8)]
theorem lw_r1 : ∀ q ∈ lw_privs_1, lw_okq q := List.forall_mem_cons.mpr ⟨lw_p0, List.forall_mem_cons.mpr ⟨lw_p1, List.forall_mem_cons.mpr ⟨lw_p2, List.forall_mem_cons.mpr ⟨lw_p3, List.forall_mem_cons.mpr ⟨lw_p4, List.forall_mem_cons.mpr ⟨lw_p5, List.forall_mem_cons.mpr ⟨lw_p6, List.forall_mem_cons.mpr ⟨lw_p7, List.forall_mem_cons.mpr ⟨lw_p8, List.forall_mem_cons.mpr ⟨lw_p9, List.forall_mem_cons.mpr ⟨lw_p10, List.forall_mem_cons.mpr ⟨lw_p11, List.forall_mem_cons.mpr ⟨lw_p12, List.forall_mem_cons.mpr ⟨lw_p13, List.forall_mem_cons.mpr ⟨lw_p14, List.forall_mem_cons.mpr ⟨lw_p15, fun _ h => absurd h List.not_mem_nil⟩⟩⟩⟩⟩⟩⟩⟩⟩⟩⟩⟩⟩⟩⟩⟩
theorem lw_p16 : lw_okq (⟨"WornSums$Findings", "reachOn", "(LWornSums$Agreeing;I)V"⟩, 8) := ⟨⟨by decide +kernel, by decide +kernel⟩, List.mem_of_getElem? (i := 227) (by decide +kernel), List.mem_of_getElem? (i := 610) (by decide +kernel), List.mem_of_getElem? (i := 611) (by decide +kernel)⟩
theorem lw_p17 : lw_okq (⟨"WornSums$Findings", "isReachedBy", "(LWornSums$Agreeing;I)Z"⟩, 8) := ⟨⟨by decide +kernel, by decide +kernel⟩, List.mem_of_getElem? (i := 227) (by decide +kernel), List.mem_of_getElem? (i := 614) (by decide +kernel), List.mem_of_getElem? (i := 615) (by decide +kernel)⟩
theorem lw_p18 : lw_okq (⟨"WornSums$Findings", "isReached", "(I)Z"⟩, 8) := ⟨⟨by decide +kernel, by decide +kernel⟩, List.mem_of_getElem? (i := 227) (by decide +kernel), List.mem_of_getElem? (i := 618) (by decide +kernel), List.mem_of_getElem? (i := 619) (by decide +kernel)⟩
theorem lw_p19 : lw_okq (⟨"WornSums$Findings", "mostOfOneLetter", "(LWornSums$Agreeing;ILWornSums$NumberWords;)I"⟩, 8) := ⟨⟨by decide +kernel, by decide +kernel⟩, List.mem_of_getElem? (i := 227) (by decide +kernel), List.mem_of_getElem? (i := 631) (by decide +kernel), List.mem_of_getElem? (i := 632) (by decide +kernel)⟩
theorem lw_p20 : lw_okq (⟨"WornSumsModel", "readText", "()I"⟩, 18) := ⟨⟨by decide +kernel, by decide +kernel⟩, List.mem_of_getElem? (i := 656) (by decide +kernel), List.mem_of_getElem? (i := 732) (by decide +kernel), List.mem_of_getElem? (i := 733) (by decide +kernel)⟩
theorem lw_p21 : lw_okq (⟨"WornSumsModel", "note", "()V"⟩, 18) := ⟨⟨by decide +kernel, by decide +kernel⟩, List.mem_of_getElem? (i := 656) (by decide +kernel), List.mem_of_getElem? (i := 742) (by decide +kernel), List.mem_of_getElem? (i := 743) (by decide +kernel)⟩
theorem lw_p22 : lw_okq (⟨"WornSumsModel", "isEntry", "(I)Z"⟩, 18) := ⟨⟨by decide +kernel, by decide +kernel⟩, List.mem_of_getElem? (i := 656) (by decide +kernel), List.mem_of_getElem? (i := 753) (by decide +kernel), List.mem_of_getElem? (i := 754) (by decide +kernel)⟩
theorem lw_p23 : lw_okq (⟨"WornSumsModel", "isPlace", "(III)Z"⟩, 18) := ⟨⟨by decide +kernel, by decide +kernel⟩, List.mem_of_getElem? (i := 656) (by decide +kernel), List.mem_of_getElem? (i := 761) (by decide +kernel), List.mem_of_getElem? (i := 762) (by decide +kernel)⟩
theorem lw_p24 : lw_okq (⟨"WornSumsModel", "wornIn", "(I)I"⟩, 18) := ⟨⟨by decide +kernel, by decide +kernel⟩, List.mem_of_getElem? (i := 656) (by decide +kernel), List.mem_of_getElem? (i := 772) (by decide +kernel), List.mem_of_getElem? (i := 773) (by decide +kernel)⟩
theorem lw_p25 : lw_okq (⟨"WornSumsModel", "change", "(II)I"⟩, 18) := ⟨⟨by decide +kernel, by decide +kernel⟩, List.mem_of_getElem? (i := 656) (by decide +kernel), List.mem_of_getElem? (i := 780) (by decide +kernel), List.mem_of_getElem? (i := 781) (by decide +kernel)⟩
theorem lw_p26 : lw_okq (⟨"WornSumsModel", "manyBy", "(II)I"⟩, 18) := ⟨⟨by decide +kernel, by decide +kernel⟩, List.mem_of_getElem? (i := 656) (by decide +kernel), List.mem_of_getElem? (i := 796) (by decide +kernel), List.mem_of_getElem? (i := 797) (by decide +kernel)⟩
theorem lw_p27 : lw_okq (⟨"WornSumsModel", "doubtByWords", "(II)I"⟩, 18) := ⟨⟨by decide +kernel, by decide +kernel⟩, List.mem_of_getElem? (i := 656) (by decide +kernel), List.mem_of_getElem? (i := 800) (by decide +kernel), List.mem_of_getElem? (i := 801) (by decide +kernel)⟩
theorem lw_p28 : lw_okq (⟨"WornSumsModel", "spell", "(I)V"⟩, 18) := ⟨⟨by decide +kernel, by decide +kernel⟩, List.mem_of_getElem? (i := 656) (by decide +kernel), List.mem_of_getElem? (i := 804) (by decide +kernel), List.mem_of_getElem? (i := 805) (by decide +kernel)⟩
theorem lw_p29 : lw_okq (⟨"WornSumsModel", "say", "(I)V"⟩, 18) := ⟨⟨by decide +kernel, by decide +kernel⟩, List.mem_of_getElem? (i := 656) (by decide +kernel), List.mem_of_getElem? (i := 808) (by decide +kernel), List.mem_of_getElem? (i := 809) (by decide +kernel)⟩
theorem lw_p30 : lw_okq (⟨"WornSumsModel", "doubtByFigures", "(II)I"⟩, 18) := ⟨⟨by decide +kernel, by decide +kernel⟩, List.mem_of_getElem? (i := 656) (by decide +kernel), List.mem_of_getElem? (i := 846) (by decide +kernel), List.mem_of_getElem? (i := 847) (by decide +kernel)⟩
theorem lw_p31 : lw_okq (⟨"WornSumsModel", "findAgreeing", "(I)V"⟩, 18) := ⟨⟨by decide +kernel, by decide +kernel⟩, List.mem_of_getElem? (i := 656) (by decide +kernel), List.mem_of_getElem? (i := 853) (by decide +kernel), List.mem_of_getElem? (i := 854) (by decide +kernel)⟩
def lw_privs_2 : List (MethodName × Nat) := [(⟨"WornSums$Findings", "reachOn", "(LWornSums$Agreeing;I)V"⟩, 8), (⟨"WornSums$Findings", "isReachedBy", "(LWornSums$Agreeing;I)Z"⟩, 8), (⟨"WornSums$Findings", "isReached", "(I)Z"⟩, 8), (⟨"WornSums$Findings", "mostOfOneLetter", "(LWornSums$Agreeing;ILWornSums$NumberWords;)I"⟩, 8), (⟨"WornSumsModel", "readText", "()I"⟩, 18), (⟨"WornSumsModel", "note", "()V"⟩, 18), (⟨"WornSumsModel", "isEntry", "(I)Z"⟩, 18), (⟨"WornSumsModel", "isPlace", "(III)Z"⟩, 18), (⟨"WornSumsModel", "wornIn", "(I)I"⟩, 18), (⟨"WornSumsModel", "change", "(II)I"⟩, 18), (⟨"WornSumsModel", "manyBy", "(II)I"⟩, 18), (⟨"WornSumsModel", "doubtByWords", "(II)I"⟩, 18), (⟨"WornSumsModel", "spell", "(I)V"⟩, 18), (⟨"WornSumsModel", "say", "(I)V"⟩, 18), (⟨"WornSumsModel", "doubtByFigures", "(II)I"⟩, 18), (⟨"WornSumsModel", "findAgreeing", "(I)V"⟩, 18)]
theorem lw_r2 : ∀ q ∈ lw_privs_2, lw_okq q := List.forall_mem_cons.mpr ⟨lw_p16, List.forall_mem_cons.mpr ⟨lw_p17, List.forall_mem_cons.mpr ⟨lw_p18, List.forall_mem_cons.mpr ⟨lw_p19, List.forall_mem_cons.mpr ⟨lw_p20, List.forall_mem_cons.mpr ⟨lw_p21, List.forall_mem_cons.mpr ⟨lw_p22, List.forall_mem_cons.mpr ⟨lw_p23, List.forall_mem_cons.mpr ⟨lw_p24, List.forall_mem_cons.mpr ⟨lw_p25, List.forall_mem_cons.mpr ⟨lw_p26, List.forall_mem_cons.mpr ⟨lw_p27, List.forall_mem_cons.mpr ⟨lw_p28, List.forall_mem_cons.mpr ⟨lw_p29, List.forall_mem_cons.mpr ⟨lw_p30, List.forall_mem_cons.mpr ⟨lw_p31, fun _ h => absurd h List.not_mem_nil⟩⟩⟩⟩⟩⟩⟩⟩⟩⟩⟩⟩⟩⟩⟩⟩
theorem lw_p32 : lw_okq (⟨"WornSumsModel", "findLeast", "()I"⟩, 18) := ⟨⟨by decide +kernel, by decide +kernel⟩, List.mem_of_getElem? (i := 656) (by decide +kernel), List.mem_of_getElem? (i := 877) (by decide +kernel), List.mem_of_getElem? (i := 878) (by decide +kernel)⟩
theorem lw_p33 : lw_okq (⟨"WornSumsModel", "findAll", "()V"⟩, 18) := ⟨⟨by decide +kernel, by decide +kernel⟩, List.mem_of_getElem? (i := 656) (by decide +kernel), List.mem_of_getElem? (i := 881) (by decide +kernel), List.mem_of_getElem? (i := 882) (by decide +kernel)⟩
theorem lw_p34 : lw_okq (⟨"WornSumsModel", "findFree", "()I"⟩, 18) := ⟨⟨by decide +kernel, by decide +kernel⟩, List.mem_of_getElem? (i := 656) (by decide +kernel), List.mem_of_getElem? (i := 885) (by decide +kernel), List.mem_of_getElem? (i := 886) (by decide +kernel)⟩
theorem lw_p35 : lw_okq (⟨"WornSumsModel", "findSum", "()I"⟩, 18) := ⟨⟨by decide +kernel, by decide +kernel⟩, List.mem_of_getElem? (i := 656) (by decide +kernel), List.mem_of_getElem? (i := 890) (by decide +kernel), List.mem_of_getElem? (i := 891) (by decide +kernel)⟩
theorem lw_p36 : lw_okq (⟨"WornSumsModel", "layLeast", "(II)V"⟩, 18) := ⟨⟨by decide +kernel, by decide +kernel⟩, List.mem_of_getElem? (i := 656) (by decide +kernel), List.mem_of_getElem? (i := 894) (by decide +kernel), List.mem_of_getElem? (i := 895) (by decide +kernel)⟩
theorem lw_p37 : lw_okq (⟨"WornSumsModel", "leastAt", "(II)I"⟩, 18) := ⟨⟨by decide +kernel, by decide +kernel⟩, List.mem_of_getElem? (i := 656) (by decide +kernel), List.mem_of_getElem? (i := 898) (by decide +kernel), List.mem_of_getElem? (i := 899) (by decide +kernel)⟩
theorem lw_p38 : lw_okq (⟨"WornSumsModel", "isAltered", "()Z"⟩, 18) := ⟨⟨by decide +kernel, by decide +kernel⟩, List.mem_of_getElem? (i := 656) (by decide +kernel), List.mem_of_getElem? (i := 906) (by decide +kernel), List.mem_of_getElem? (i := 907) (by decide +kernel)⟩
theorem lw_p39 : lw_okq (⟨"WornSumsModel", "findOthers", "(I)V"⟩, 18) := ⟨⟨by decide +kernel, by decide +kernel⟩, List.mem_of_getElem? (i := 656) (by decide +kernel), List.mem_of_getElem? (i := 910) (by decide +kernel), List.mem_of_getElem? (i := 911) (by decide +kernel)⟩
theorem lw_p40 : lw_okq (⟨"WornSumsModel", "addOther", "(I)V"⟩, 18) := ⟨⟨by decide +kernel, by decide +kernel⟩, List.mem_of_getElem? (i := 656) (by decide +kernel), List.mem_of_getElem? (i := 914) (by decide +kernel), List.mem_of_getElem? (i := 915) (by decide +kernel)⟩
theorem lw_p41 : lw_okq (⟨"WornSumsModel", "mostAt", "(II)I"⟩, 18) := ⟨⟨by decide +kernel, by decide +kernel⟩, List.mem_of_getElem? (i := 656) (by decide +kernel), List.mem_of_getElem? (i := 922) (by decide +kernel), List.mem_of_getElem? (i := 923) (by decide +kernel)⟩
def lw_privs_3 : List (MethodName × Nat) := [(⟨"WornSumsModel", "findLeast", "()I"⟩, 18), (⟨"WornSumsModel", "findAll", "()V"⟩, 18), (⟨"WornSumsModel", "findFree", "()I"⟩, 18), (⟨"WornSumsModel", "findSum", "()I"⟩, 18), (⟨"WornSumsModel", "layLeast", "(II)V"⟩, 18), (⟨"WornSumsModel", "leastAt", "(II)I"⟩, 18), (⟨"WornSumsModel", "isAltered", "()Z"⟩, 18), (⟨"WornSumsModel", "findOthers", "(I)V"⟩, 18), (⟨"WornSumsModel", "addOther", "(I)V"⟩, 18), (⟨"WornSumsModel", "mostAt", "(II)I"⟩, 18)]
theorem lw_r3 : ∀ q ∈ lw_privs_3, lw_okq q := List.forall_mem_cons.mpr ⟨lw_p32, List.forall_mem_cons.mpr ⟨lw_p33, List.forall_mem_cons.mpr ⟨lw_p34, List.forall_mem_cons.mpr ⟨lw_p35, List.forall_mem_cons.mpr ⟨lw_p36, List.forall_mem_cons.mpr ⟨lw_p37, List.forall_mem_cons.mpr ⟨lw_p38, List.forall_mem_cons.mpr ⟨lw_p39, List.forall_mem_cons.mpr ⟨lw_p40, List.forall_mem_cons.mpr ⟨lw_p41, fun _ h => absurd h List.not_mem_nil⟩⟩⟩⟩⟩⟩⟩⟩⟩⟩
def lw_privs : List (MethodName × Nat) := lw_privs_1 ++ (lw_privs_2 ++ (lw_privs_3))
def lw_tbl : List Cond := k2_sels lw_privs ++ tables_1
theorem lw_privs_ok : ∀ q ∈ lw_privs, lw_okq q := by
  show ∀ q ∈ lw_privs_1 ++ (lw_privs_2 ++ (lw_privs_3)), lw_okq q
  exact List.forall_mem_append.mpr ⟨lw_r1, List.forall_mem_append.mpr ⟨lw_r2, lw_r3⟩⟩

def tbG : List Cond := lw_tbl.filter goodWord
theorem tb_mem {w : Cond} (h : w ∈ lw_tbl) (g : goodWord w = true) : w ∈ tbG := List.mem_filter.mpr ⟨h, g⟩
theorem tbs {w : Cond} (i : Nat) (h : (k2_sels lw_privs)[i]? = some w) (g : goodWord w = true) : w ∈ tbG := tb_mem (List.mem_append_left _ (List.mem_of_getElem? h)) g
theorem tb1 {w : Cond} (i : Nat) (h : tables_1_1[i]? = some w) (g : goodWord w = true) : w ∈ tbG := tb_mem (List.mem_append_right _ (show w ∈ tables_1 from List.mem_append_left _ (List.mem_of_getElem? h))) g
theorem tb2 {w : Cond} (i : Nat) (h : tables_1_2[i]? = some w) (g : goodWord w = true) : w ∈ tbG := tb_mem (List.mem_append_right _ (show w ∈ tables_1 from List.mem_append_right _ (List.mem_append_left _ (List.mem_of_getElem? h)))) g
theorem tb3 {w : Cond} (i : Nat) (h : tables_1_3[i]? = some w) (g : goodWord w = true) : w ∈ tbG := tb_mem (List.mem_append_right _ (show w ∈ tables_1 from List.mem_append_right _ (List.mem_append_right _ (List.mem_append_left _ (List.mem_of_getElem? h))))) g
theorem tb4 {w : Cond} (i : Nat) (h : tables_1_4[i]? = some w) (g : goodWord w = true) : w ∈ tbG := tb_mem (List.mem_append_right _ (show w ∈ tables_1 from List.mem_append_right _ (List.mem_append_right _ (List.mem_append_right _ (List.mem_of_getElem? h))))) g
def uT_0 : u_T := fun k => match k with
  | 0 => ("WornSums$Agreeing", "numbers", "[I", true)
  | 1 => ("WornSums$Agreeing", "doubts", "[I", true)
  | 2 => ("WornSums$Agreeing", "size", "I", false)
  | 3 => ("WornSums$Agreeing", "byWords", "I", false)
  | _ => ("WornSums$Agreeing", "byFigures", "I", false)
def uT_1 : u_T := fun k => match k with
  | 0 => ("WornSums$Findings", "agreeing", "[LWornSums$Agreeing;", true)
  | 1 => ("WornSums$Findings", "agreeingKnown", "Z", false)
  | 2 => ("WornSums$Findings", "leastBySum", "[[I", true)
  | 3 => ("WornSums$Findings", "leastNumbers", "[I", true)
  | 4 => ("WornSums$Findings", "leastDoubt", "I", false)
  | 5 => ("WornSums$Findings", "leastKnown", "Z", false)
  | 6 => ("WornSums$Findings", "reached", "[Z", true)
  | _ => ("WornSums$Findings", "letterCounts", "[I", true)
def uT_2 : u_T := fun k => match k with
  | 0 => ("WornSums$History", "sheets", "[LWornSums$Sheet;", true)
  | 1 => ("WornSums$History", "next", "I", false)
  | _ => ("WornSums$History", "size", "I", false)
def uT_3 : u_T := fun k => match k with
  | 0 => ("WornSums$NumberWords", "signs", "[C", true)
  | _ => ("WornSums$NumberWords", "lengths", "[I", true)
def uT_4 : u_T := fun k => match k with
  | 0 => ("WornSums$Row", "signs", "[C", true)
  | _ => ("WornSums$Row", "length", "I", false)
def uT_5 : u_T := fun k => match k with
  | 0 => ("WornSums$Sheet", "words", "[LWornSums$Row;", true)
  | 1 => ("WornSums$Sheet", "figures", "[LWornSums$Row;", true)
  | 2 => ("WornSums$Sheet", "size", "I", false)
  | 3 => ("WornSums$Sheet", "slack", "I", false)
  | _ => ("WornSums$Sheet", "total", "I", false)
def uT_6 : u_T := fun k => match k with
  | 0 => ("WornSums$Text", "letters", "[C", true)
  | _ => ("WornSums$Text", "length", "I", false)
def uT_7 : u_T := fun k => match k with
  | 0 => ("WornSums", "text", "LWornSums$Text;", true)
  | 1 => ("WornSums", "sheet", "LWornSums$Sheet;", true)
  | 2 => ("WornSums", "history", "LWornSums$History;", true)
  | 3 => ("WornSums", "images", "[LWornSums$Sheet;", true)
  | 4 => ("WornSums", "imageKept", "[Z", true)
  | 5 => ("WornSums", "numberWords", "LWornSums$NumberWords;", true)
  | _ => ("WornSums", "findings", "LWornSums$Findings;", true)
def uT_8 : u_T := fun k => match k with
  | 0 => ("WornSumsModel", "now", "[I", true)
  | 1 => ("WornSumsModel", "past", "[I", true)
  | 2 => ("WornSumsModel", "deeds", "I", false)
  | 3 => ("WornSumsModel", "images", "[I", true)
  | 4 => ("WornSumsModel", "isKept", "[Z", true)
  | 5 => ("WornSumsModel", "text", "[I", true)
  | 6 => ("WornSumsModel", "letters", "I", false)
  | 7 => ("WornSumsModel", "spelt", "[I", true)
  | 8 => ("WornSumsModel", "speltMany", "I", false)
  | 9 => ("WornSumsModel", "agreeing", "[I", true)
  | 10 => ("WornSumsModel", "doubts", "[I", true)
  | 11 => ("WornSumsModel", "agreeMany", "[I", true)
  | 12 => ("WornSumsModel", "early", "[I", true)
  | 13 => ("WornSumsModel", "late", "[I", true)
  | 14 => ("WornSumsModel", "chosen", "[I", true)
  | 15 => ("WornSumsModel", "comes", "[Z", true)
  | 16 => ("WornSumsModel", "comesThen", "[Z", true)
  | _ => ("WornSumsModel", "having", "[I", true)
def pp_cl : List vw_C := [("WornSums$Agreeing", uT_0, 5), ("WornSums$Findings", uT_1, 8), ("WornSums$History", uT_2, 3), ("WornSums$NumberWords", uT_3, 2), ("WornSums$Row", uT_4, 2), ("WornSums$Sheet", uT_5, 5), ("WornSums$Text", uT_6, 2), ("WornSums", uT_7, 7), ("WornSumsModel", uT_8, 18)]
def pp_ty : List (List FieldType) := [[.array .int, .array .int, .int, .int, .int], [.array (.object "WornSums$Agreeing"), .boolean, .array (.array .int), .array .int, .int, .boolean, .array .boolean, .array .int], [.array (.object "WornSums$Sheet"), .int, .int], [.array .char, .array .int], [.array .char, .int], [.array (.object "WornSums$Row"), .array (.object "WornSums$Row"), .int, .int, .int], [.array .char, .int], [.object "WornSums$Text", .object "WornSums$Sheet", .object "WornSums$History", .array (.object "WornSums$Sheet"), .array .boolean, .object "WornSums$NumberWords", .object "WornSums$Findings"], [.array .int, .array .int, .int, .array .int, .array .boolean, .array .int, .int, .array .int, .int, .array .int, .array .int, .array .int, .array .int, .array .int, .array .int, .array .boolean, .array .boolean, .array .int]]
def pp_df : List (List Value) := [[.null, .null, .int 0, .int 0, .int 0], [.null, .int 0, .null, .null, .int 0, .int 0, .null, .null], [.null, .int 0, .int 0], [.null, .null], [.null, .int 0], [.null, .null, .int 0, .int 0, .int 0], [.null, .int 0], [.null, .null, .null, .null, .null, .null, .null], [.null, .null, .int 0, .null, .null, .null, .int 0, .null, .int 0, .null, .null, .null, .null, .null, .null, .null, .null, .null]]
def pp_cn : List String := ["WornSums$Agreeing", "WornSums$Findings", "WornSums$History", "WornSums$NumberWords", "WornSums$Row", "WornSums$Sheet", "WornSums$Text", "WornSums", "WornSumsModel"]
def pp_st : List (List Int32) := [[122, 101, 114, 111, 32, 111, 110, 101, 32, 116, 119, 111, 32, 116, 104, 114, 101, 101, 32, 102, 111, 117, 114, 32, 102, 105, 118, 101, 32, 115, 105, 120, 32, 115, 101, 118, 101, 110, 32, 101, 105, 103, 104, 116, 32, 110, 105, 110, 101], [116, 101, 110, 32, 101, 108, 101, 118, 101, 110, 32, 116, 119, 101, 108, 118, 101, 32, 116, 104, 105, 114, 116, 101, 101, 110, 32, 102, 111, 117, 114, 116, 101, 101, 110, 32, 102, 105, 102, 116, 101, 101, 110, 32, 115, 105, 120, 116, 101, 101, 110, 32, 115, 101, 118, 101, 110, 116, 101, 101, 110, 32, 101, 105, 103, 104, 116, 101, 101, 110, 32, 110, 105, 110, 101, 116, 101, 101, 110], [116, 119, 101, 110, 116, 121, 32, 116, 104, 105, 114, 116, 121, 32, 102, 111, 114, 116, 121, 32, 102, 105, 102, 116, 121, 32, 115, 105, 120, 116, 121, 32, 115, 101, 118, 101, 110, 116, 121, 32, 101, 105, 103, 104, 116, 121, 32, 110, 105, 110, 101, 116, 121], [32, 104, 117, 110, 100, 114, 101, 100], [32, 97, 110, 100, 32], [48, 54, 48, 56, 49, 55, 51, 56, 52, 57, 53, 54, 54, 56]]
/-- WornSums$Text.<init>()V -/
def pc_0 : List (List (Nat × smI)) := [[(0, .aload_n 0, 1, 0, 0, 0), (1, .invokespecial 3, 3, 0, 0, 0), (4, .aload_n 0, 1, 0, 0, 0), (5, .bipush 40, 2, 40, 0, 0), (7, .newarray .char, 2, 0, 0, 0), (9, .putfield 9, 3, 6, 0, 1), (12, .aload_n 0, 1, 0, 0, 0), (13, .iconst 0, 1, 0, 0, 0), (14, .putfield 15, 3, 6, 1, 0)],
  [(17, .return_, 1, 0, 0, 0)]]
/-- WornSums$Row.<init>(I)V -/
def pc_1 : List (List (Nat × smI)) := [[(0, .aload_n 0, 1, 0, 0, 0), (1, .invokespecial 3, 3, 0, 0, 0), (4, .aload_n 0, 1, 0, 0, 0), (5, .iconst 0, 1, 0, 0, 0), (6, .putfield 9, 3, 4, 1, 0), (9, .aload_n 0, 1, 0, 0, 0), (10, .iload_n 1, 1, 0, 0, 0), (11, .iconst 0, 1, 0, 0, 0), (12, .invokestatic 15, 3, 0, 0, 1), (15, .newarray .char, 2, 0, 0, 0)],
  [(17, .putfield 21, 3, 4, 0, 1), (20, .return_, 1, 0, 0, 0)]]
/-- WornSums$Sheet.newRows(I)[LWornSums$Row; -/
def pc_2 : List (List (Nat × smI)) := [[(0, .bipush 6, 2, 6, 0, 0), (2, .anewarray 32, 3, 4, 0, 0), (5, .astore_n 1, 1, 0, 0, 0), (6, .iconst 0, 1, 0, 0, 0), (7, .istore_n 2, 1, 0, 0, 0), (8, .iload_n 2, 1, 0, 0, 0), (9, .aload_n 1, 1, 0, 0, 0), (10, .arraylength, 1, 0, 0, 0), (11, .if_icmp .ge 20, 3, 0, 0, 0), (14, .aload_n 1, 1, 0, 0, 0), (15, .iload_n 2, 1, 0, 0, 0)],
  [(16, .new 32, 3, 4, 0, 0), (19, .dup, 1, 0, 0, 0), (20, .iload_n 0, 1, 0, 0, 0), (21, .invokespecial 34, 3, 1, 1, 1), (24, .aastore, 1, 0, 0, 0), (25, .iinc 2 1, 3, 1, 0, 0), (28, .goto (-20), 3, 0, 0, 0), (31, .aload_n 1, 1, 0, 0, 0)],
  [(32, .areturn, 1, 0, 0, 0)]]
/-- WornSums$Sheet.<init>()V -/
def pc_3 : List (List (Nat × smI)) := [[(0, .aload_n 0, 1, 0, 0, 0), (1, .invokespecial 3, 3, 0, 0, 0), (4, .aload_n 0, 1, 0, 0, 0), (5, .bipush 31, 2, 31, 0, 0), (7, .invokestatic 9, 3, 2, 1, 0), (10, .putfield 15, 3, 5, 0, 1), (13, .aload_n 0, 1, 0, 0, 0), (14, .iconst 3, 1, 3, 0, 0), (15, .invokestatic 9, 3, 2, 1, 0)],
  [(18, .putfield 19, 3, 5, 1, 1), (21, .aload_n 0, 1, 0, 0, 0), (22, .iconst 0, 1, 0, 0, 0), (23, .putfield 22, 3, 5, 2, 0), (26, .aload_n 0, 1, 0, 0, 0), (27, .iconst 0, 1, 0, 0, 0), (28, .putfield 26, 3, 5, 3, 0), (31, .aload_n 0, 1, 0, 0, 0)],
  [(32, .bipush (-9), 2, 9, 1, 0), (34, .putfield 29, 3, 5, 4, 0), (37, .return_, 1, 0, 0, 0)]]
/-- WornSums.newSheets(I)[LWornSums$Sheet; -/
def pc_4 : List (List (Nat × smI)) := [[(0, .iload_n 0, 1, 0, 0, 0), (1, .iconst 0, 1, 0, 0, 0), (2, .invokestatic 209, 3, 0, 0, 1), (5, .anewarray 16, 3, 5, 0, 0), (8, .astore_n 1, 1, 0, 0, 0), (9, .iconst 0, 1, 0, 0, 0), (10, .istore_n 2, 1, 0, 0, 0), (11, .iload_n 2, 1, 0, 0, 0), (12, .aload_n 1, 1, 0, 0, 0), (13, .arraylength, 1, 0, 0, 0), (14, .if_icmp .ge 19, 3, 0, 0, 0)],
  [(17, .aload_n 1, 1, 0, 0, 0), (18, .iload_n 2, 1, 0, 0, 0), (19, .new 16, 3, 5, 0, 0), (22, .dup, 1, 0, 0, 0), (23, .invokespecial 18, 3, 3, 0, 1), (26, .aastore, 1, 0, 0, 0), (27, .iinc 2 1, 3, 1, 0, 0), (30, .goto (-19), 3, 0, 0, 0)],
  [(33, .aload_n 1, 1, 0, 0, 0), (34, .areturn, 1, 0, 0, 0)]]
/-- WornSums$History.<init>()V -/
def pc_5 : List (List (Nat × smI)) := [[(0, .aload_n 0, 1, 0, 0, 0), (1, .invokespecial 3, 3, 0, 0, 0), (4, .aload_n 0, 1, 0, 0, 0), (5, .bipush 8, 2, 8, 0, 0), (7, .invokestatic 9, 3, 4, 1, 0), (10, .putfield 13, 3, 2, 0, 1), (13, .aload_n 0, 1, 0, 0, 0), (14, .iconst 0, 1, 0, 0, 0), (15, .putfield 19, 3, 2, 1, 0)],
  [(18, .aload_n 0, 1, 0, 0, 0), (19, .iconst 0, 1, 0, 0, 0), (20, .putfield 23, 3, 2, 2, 0), (23, .return_, 1, 0, 0, 0)]]
/-- java/lang/String.coder()B -/
def pc_6 : List (List (Nat × smI)) := [[(0, .getstatic 38, 3, 1, 0, 0), (3, .ifCond .eq 10, 3, 0, 0, 0), (6, .aload_n 0, 1, 0, 0, 0), (7, .getfield 15, 3, 0, 0, 3), (10, .goto 4, 3, 0, 0, 0), (13, .iconst 1, 1, 1, 0, 0), (14, .ireturn, 1, 0, 0, 3)]]
/-- java/lang/String.length()I -/
def pc_7 : List (List (Nat × smI)) := [[(0, .aload_n 0, 1, 0, 0, 0), (1, .getfield 9, 3, 0, 0, 2), (4, .arraylength, 1, 0, 0, 0), (5, .aload_n 0, 1, 0, 0, 0), (6, .invokevirtual 335, 3, 6, 0, 0), (9, .ishr, 1, 0, 0, 0), (10, .ireturn, 1, 0, 0, 0)]]
/-- java/lang/String.isLatin1()Z -/
def pc_8 : List (List (Nat × smI)) := [[(0, .getstatic 38, 3, 1, 0, 0), (3, .ifCond .eq 14, 3, 0, 0, 0), (6, .aload_n 0, 1, 0, 0, 0), (7, .getfield 15, 3, 0, 0, 3), (10, .ifCond .ne 7, 3, 0, 0, 0), (13, .iconst 1, 1, 1, 0, 0), (14, .goto 4, 3, 0, 0, 0)],
  [(17, .iconst 0, 1, 0, 0, 0), (18, .ireturn, 1, 0, 0, 1)]]
/-- jdk/internal/util/Preconditions.checkIndex(IILjava/util/function/BiFunction;)I -/
def pc_9 : List (List (Nat × smI)) := [[(0, .iload_n 0, 1, 0, 0, 0), (1, .ifCond .lt 8, 3, 0, 0, 0), (4, .iload_n 0, 1, 0, 0, 0), (5, .iload_n 1, 1, 0, 0, 0), (6, .if_icmp .lt 10, 3, 0, 0, 0), (9, .aload_n 2, 1, 0, 0, 0), (10, .iload_n 0, 1, 0, 0, 0), (11, .iload_n 1, 1, 0, 0, 0)],
  [(16, .iload_n 0, 1, 0, 0, 0), (17, .ireturn, 1, 0, 0, 0)]]
/-- java/lang/String.checkIndex(II)V -/
def pc_10 : List (List (Nat × smI)) := [[(0, .iload_n 0, 1, 0, 0, 0), (1, .iload_n 1, 1, 0, 0, 0), (2, .getstatic 1053, 3, 41, 0, 1), (5, .invokestatic 1059, 3, 9, 3, 0), (8, .pop, 1, 0, 0, 0), (9, .return_, 1, 0, 0, 0)]]
/-- java/lang/StringLatin1.charAt([BI)C -/
def pc_11 : List (List (Nat × smI)) := [[(0, .iload_n 1, 1, 0, 0, 0), (1, .aload_n 0, 1, 0, 0, 0), (2, .arraylength, 1, 0, 0, 0), (3, .invokestatic 9, 3, 10, 2, 0), (6, .aload_n 0, 1, 0, 0, 0), (7, .iload_n 1, 1, 0, 0, 0), (8, .baload, 1, 0, 0, 1), (9, .sipush 255, 3, 255, 0, 0), (12, .iand, 1, 0, 0, 0), (13, .i2c, 1, 0, 0, 0), (14, .ireturn, 1, 0, 0, 2)]]
/-- java/lang/String.charAt(I)C -/
def pc_12 : List (List (Nat × smI)) := [[(0, .aload_n 0, 1, 0, 0, 0), (1, .invokevirtual 492, 3, 8, 0, 0), (4, .ifCond .eq 12, 3, 0, 0, 0), (7, .aload_n 0, 1, 0, 0, 0), (8, .getfield 9, 3, 0, 0, 2), (11, .iload_n 1, 1, 0, 0, 0), (12, .invokestatic 495, 3, 11, 2, 0), (15, .ireturn, 1, 0, 0, 2)],
  [(16, .aload_n 0, 1, 0, 0, 0), (17, .getfield 9, 3, 0, 0, 2), (20, .iload_n 1, 1, 0, 0, 0), (24, .ireturn, 1, 0, 0, 2)]]
/-- WornSums.isNumber(I)Z -/
def pc_13 : List (List (Nat × smI)) := [[(0, .iload_n 0, 1, 0, 0, 0), (1, .ifCond .lt 14, 3, 0, 0, 0), (4, .iload_n 0, 1, 0, 0, 0), (5, .sipush 1000, 3, 1000, 0, 0), (8, .if_icmp .ge 7, 3, 0, 0, 0), (11, .iconst 1, 1, 1, 0, 0), (12, .goto 4, 3, 0, 0, 0), (15, .iconst 0, 1, 0, 0, 0)],
  [(16, .ireturn, 1, 0, 0, 1)]]
/-- WornSums$NumberWords.addSign(IC)V -/
def pc_14 : List (List (Nat × smI)) := [[(0, .iload_n 1, 1, 0, 0, 0), (1, .invokestatic 73, 3, 13, 1, 0), (4, .ifCond .eq 14, 3, 0, 0, 0), (7, .aload_n 0, 1, 0, 0, 0), (8, .getfield 15, 3, 3, 1, 1), (11, .iload_n 1, 1, 0, 0, 0), (12, .iaload, 1, 0, 0, 0), (13, .bipush 31, 2, 31, 0, 0), (15, .if_icmp .lt 4, 3, 0, 0, 0)],
  [(18, .return_, 1, 0, 0, 0), (19, .aload_n 0, 1, 0, 0, 0), (20, .getfield 9, 3, 3, 0, 1), (23, .iload_n 1, 1, 0, 0, 0), (24, .bipush 31, 2, 31, 0, 0), (26, .imul, 1, 0, 0, 0), (27, .aload_n 0, 1, 0, 0, 0), (28, .getfield 15, 3, 3, 1, 1), (31, .iload_n 1, 1, 0, 0, 0)],
  [(32, .iaload, 1, 0, 0, 0), (33, .iadd, 1, 0, 0, 0), (34, .iload_n 2, 1, 0, 0, 0), (35, .castore, 1, 0, 0, 0), (36, .aload_n 0, 1, 0, 0, 0), (37, .getfield 15, 3, 3, 1, 1), (40, .iload_n 1, 1, 0, 0, 0), (41, .dup2, 1, 0, 0, 0), (42, .iaload, 1, 0, 0, 0), (43, .iconst 1, 1, 1, 0, 0), (44, .iadd, 1, 0, 0, 0), (45, .iastore, 1, 0, 0, 0), (46, .return_, 1, 0, 0, 0)]]
/-- WornSums$NumberWords.addName(ILjava/lang/String;I)V -/
def pc_15 : List (List (Nat × smI)) := [[(0, .iconst 0, 1, 0, 0, 0), (1, .istore 4, 2, 0, 0, 0), (3, .iconst 0, 1, 0, 0, 0), (4, .istore 5, 2, 0, 0, 0), (6, .iload 5, 2, 0, 0, 0), (8, .aload_n 2, 1, 0, 0, 0), (9, .invokevirtual 55, 3, 7, 0, 0), (12, .if_icmp .ge 43, 3, 0, 0, 0), (15, .aload_n 2, 1, 0, 0, 0)],
  [(16, .iload 5, 2, 0, 0, 0), (18, .invokevirtual 61, 3, 12, 1, 0), (21, .istore 6, 2, 0, 0, 0), (23, .iload 6, 2, 0, 0, 0), (25, .bipush 32, 2, 32, 0, 0), (27, .if_icmp .ne 9, 3, 0, 0, 0), (30, .iinc 4 1, 3, 1, 0, 0)],
  [(33, .goto 16, 3, 0, 0, 0), (36, .iload 4, 2, 0, 0, 0), (38, .iload_n 3, 1, 0, 0, 0), (39, .if_icmp .ne 10, 3, 0, 0, 0), (42, .aload_n 0, 1, 0, 0, 0), (43, .iload_n 1, 1, 0, 0, 0), (44, .iload 6, 2, 0, 0, 0), (46, .invokevirtual 43, 3, 14, 2, 4)],
  [(49, .iinc 5 1, 3, 1, 0, 0), (52, .goto (-46), 3, 0, 0, 0), (55, .return_, 1, 0, 0, 0)]]
/-- WornSums$NumberWords.lengthOf(I)I -/
def pc_16 : List (List (Nat × smI)) := [[(0, .iload_n 1, 1, 0, 0, 0), (1, .invokestatic 73, 3, 13, 1, 0), (4, .ifCond .eq 12, 3, 0, 0, 0), (7, .aload_n 0, 1, 0, 0, 0), (8, .getfield 15, 3, 3, 1, 1), (11, .iload_n 1, 1, 0, 0, 0), (12, .iaload, 1, 0, 0, 0), (13, .goto 4, 3, 0, 0, 0)],
  [(16, .iconst 0, 1, 0, 0, 0), (17, .ireturn, 1, 0, 0, 0)]]
/-- WornSums$NumberWords.at(II)I -/
def pc_17 : List (List (Nat × smI)) := [[(0, .iload_n 1, 1, 0, 0, 0), (1, .invokestatic 73, 3, 13, 1, 0), (4, .ifCond .eq 23, 3, 0, 0, 0), (7, .iload_n 2, 1, 0, 0, 0), (8, .ifCond .lt 19, 3, 0, 0, 0), (11, .iload_n 2, 1, 0, 0, 0), (12, .aload_n 0, 1, 0, 0, 0), (13, .getfield 15, 3, 3, 1, 1)],
  [(16, .iload_n 1, 1, 0, 0, 0), (17, .iaload, 1, 0, 0, 0), (18, .if_icmp .ge 9, 3, 0, 0, 0), (21, .iload_n 2, 1, 0, 0, 0), (22, .bipush 31, 2, 31, 0, 0), (24, .if_icmp .lt 6, 3, 0, 0, 0), (27, .bipush (-9), 2, 9, 1, 0), (29, .ireturn, 1, 0, 0, 0), (30, .aload_n 0, 1, 0, 0, 0), (31, .getfield 9, 3, 3, 0, 1)],
  [(34, .iload_n 1, 1, 0, 0, 0), (35, .bipush 31, 2, 31, 0, 0), (37, .imul, 1, 0, 0, 0), (38, .iload_n 2, 1, 0, 0, 0), (39, .iadd, 1, 0, 0, 0), (40, .caload, 1, 0, 0, 0), (41, .ireturn, 1, 0, 0, 0)]]
/-- WornSums$NumberWords.addNumber(II)V -/
def pc_18 : List (List (Nat × smI)) := [[(0, .aload_n 0, 1, 0, 0, 0), (1, .iload_n 2, 1, 0, 0, 0), (2, .invokevirtual 65, 3, 16, 1, 4), (5, .istore_n 3, 1, 0, 0, 0), (6, .iconst 0, 1, 0, 0, 0), (7, .istore 4, 2, 0, 0, 0), (9, .iload 4, 2, 0, 0, 0), (11, .iload_n 3, 1, 0, 0, 0), (12, .if_icmp .ge 22, 3, 0, 0, 0), (15, .aload_n 0, 1, 0, 0, 0)],
  [(16, .iload_n 1, 1, 0, 0, 0), (17, .aload_n 0, 1, 0, 0, 0), (18, .iload_n 2, 1, 0, 0, 0), (19, .iload 4, 2, 0, 0, 0), (21, .invokevirtual 69, 3, 17, 2, 4), (24, .i2c, 1, 0, 0, 0), (25, .invokevirtual 43, 3, 14, 2, 4), (28, .iinc 4 1, 3, 1, 0, 0), (31, .goto (-22), 3, 0, 0, 0)],
  [(34, .return_, 1, 0, 0, 0)]]
/-- WornSums$NumberWords.writeTens(I)V -/
def pc_19 : List (List (Nat × smI)) := [[(0, .iload_n 1, 1, 0, 0, 0), (1, .bipush 10, 2, 10, 0, 0), (3, .irem, 1, 0, 0, 0), (4, .istore_n 2, 1, 0, 0, 0), (5, .iload_n 2, 1, 0, 0, 0), (6, .ifCond .ne 17, 3, 0, 0, 0), (9, .aload_n 0, 1, 0, 0, 0), (10, .iload_n 1, 1, 0, 0, 0), (11, .ldc 37, 2, 2, 0, 1), (13, .iload_n 1, 1, 0, 0, 0), (14, .bipush 10, 2, 10, 0, 0)],
  [(16, .idiv, 1, 0, 0, 0), (17, .iconst 2, 1, 2, 0, 0), (18, .isub, 1, 0, 0, 0), (19, .invokevirtual 25, 3, 15, 3, 4), (22, .return_, 1, 0, 0, 0), (23, .aload_n 0, 1, 0, 0, 0), (24, .iload_n 1, 1, 0, 0, 0), (25, .iload_n 1, 1, 0, 0, 0), (26, .iload_n 2, 1, 0, 0, 0), (27, .isub, 1, 0, 0, 0), (28, .invokevirtual 39, 3, 18, 2, 4), (31, .aload_n 0, 1, 0, 0, 0)],
  [(32, .iload_n 1, 1, 0, 0, 0), (33, .bipush 32, 2, 32, 0, 0), (35, .invokevirtual 43, 3, 14, 2, 4), (38, .aload_n 0, 1, 0, 0, 0), (39, .iload_n 1, 1, 0, 0, 0), (40, .iload_n 2, 1, 0, 0, 0), (41, .invokevirtual 39, 3, 18, 2, 4), (44, .return_, 1, 0, 0, 0)]]
/-- WornSums$NumberWords.addAll(ILjava/lang/String;)V -/
def pc_20 : List (List (Nat × smI)) := [[(0, .iconst 0, 1, 0, 0, 0), (1, .istore_n 3, 1, 0, 0, 0), (2, .iload_n 3, 1, 0, 0, 0), (3, .aload_n 2, 1, 0, 0, 0), (4, .invokevirtual 55, 3, 7, 0, 0), (7, .if_icmp .ge 19, 3, 0, 0, 0), (10, .aload_n 0, 1, 0, 0, 0), (11, .iload_n 1, 1, 0, 0, 0), (12, .aload_n 2, 1, 0, 0, 0), (13, .iload_n 3, 1, 0, 0, 0), (14, .invokevirtual 61, 3, 12, 1, 0)],
  [(17, .invokevirtual 43, 3, 14, 2, 4), (20, .iinc 3 1, 3, 1, 0, 0), (23, .goto (-21), 3, 0, 0, 0), (26, .return_, 1, 0, 0, 0)]]
/-- WornSums$NumberWords.writeHundreds(I)V -/
def pc_21 : List (List (Nat × smI)) := [[(0, .iload_n 1, 1, 0, 0, 0), (1, .bipush 100, 2, 100, 0, 0), (3, .irem, 1, 0, 0, 0), (4, .istore_n 2, 1, 0, 0, 0), (5, .aload_n 0, 1, 0, 0, 0), (6, .iload_n 1, 1, 0, 0, 0), (7, .iload_n 1, 1, 0, 0, 0), (8, .bipush 100, 2, 100, 0, 0), (10, .idiv, 1, 0, 0, 0), (11, .invokevirtual 39, 3, 18, 2, 4), (14, .aload_n 0, 1, 0, 0, 0), (15, .iload_n 1, 1, 0, 0, 0)],
  [(16, .ldc 47, 2, 3, 0, 1), (18, .invokevirtual 49, 3, 20, 2, 4), (21, .iload_n 2, 1, 0, 0, 0), (22, .ifCond .eq 16, 3, 0, 0, 0), (25, .aload_n 0, 1, 0, 0, 0), (26, .iload_n 1, 1, 0, 0, 0), (27, .ldc 53, 2, 4, 0, 1), (29, .invokevirtual 49, 3, 20, 2, 4)],
  [(32, .aload_n 0, 1, 0, 0, 0), (33, .iload_n 1, 1, 0, 0, 0), (34, .iload_n 2, 1, 0, 0, 0), (35, .invokevirtual 39, 3, 18, 2, 4), (38, .return_, 1, 0, 0, 0)]]
/-- WornSums$NumberWords.write(I)V -/
def pc_22 : List (List (Nat × smI)) := [[(0, .iload_n 1, 1, 0, 0, 0), (1, .bipush 10, 2, 10, 0, 0), (3, .if_icmp .ge 14, 3, 0, 0, 0), (6, .aload_n 0, 1, 0, 0, 0), (7, .iload_n 1, 1, 0, 0, 0), (8, .ldc 23, 2, 0, 0, 1), (10, .iload_n 1, 1, 0, 0, 0), (11, .invokevirtual 25, 3, 15, 3, 4), (14, .goto 42, 3, 0, 0, 0)],
  [(17, .iload_n 1, 1, 0, 0, 0), (18, .bipush 20, 2, 20, 0, 0), (20, .if_icmp .ge 17, 3, 0, 0, 0), (23, .aload_n 0, 1, 0, 0, 0), (24, .iload_n 1, 1, 0, 0, 0), (25, .ldc 29, 2, 1, 0, 1), (27, .iload_n 1, 1, 0, 0, 0), (28, .bipush 10, 2, 10, 0, 0), (30, .isub, 1, 0, 0, 0), (31, .invokevirtual 25, 3, 15, 3, 4)],
  [(34, .goto 22, 3, 0, 0, 0), (37, .iload_n 1, 1, 0, 0, 0), (38, .bipush 100, 2, 100, 0, 0), (40, .if_icmp .ge 11, 3, 0, 0, 0), (43, .aload_n 0, 1, 0, 0, 0), (44, .iload_n 1, 1, 0, 0, 0), (45, .invokevirtual 31, 3, 19, 1, 4)],
  [(48, .goto 8, 3, 0, 0, 0), (51, .aload_n 0, 1, 0, 0, 0), (52, .iload_n 1, 1, 0, 0, 0), (53, .invokevirtual 34, 3, 21, 1, 4), (56, .return_, 1, 0, 0, 0)]]
/-- WornSums$NumberWords.<init>()V -/
def pc_23 : List (List (Nat × smI)) := [[(0, .aload_n 0, 1, 0, 0, 0), (1, .invokespecial 3, 3, 0, 0, 0), (4, .aload_n 0, 1, 0, 0, 0), (5, .sipush 31000, 3, 31000, 0, 0), (8, .newarray .char, 2, 0, 0, 0), (10, .putfield 9, 3, 3, 0, 1), (13, .aload_n 0, 1, 0, 0, 0), (14, .sipush 1000, 3, 1000, 0, 0)],
  [(17, .newarray .int, 2, 0, 0, 0), (19, .putfield 15, 3, 3, 1, 1), (22, .iconst 0, 1, 0, 0, 0), (23, .istore_n 1, 1, 0, 0, 0), (24, .iload_n 1, 1, 0, 0, 0), (25, .sipush 1000, 3, 1000, 0, 0), (28, .if_icmp .ge 14, 3, 0, 0, 0), (31, .aload_n 0, 1, 0, 0, 0)],
  [(32, .iload_n 1, 1, 0, 0, 0), (33, .invokevirtual 19, 3, 22, 1, 4), (36, .iinc 1 1, 3, 1, 0, 0), (39, .goto (-15), 3, 0, 0, 0), (42, .return_, 1, 0, 0, 0)]]
/-- WornSums$Agreeing.<init>()V -/
def pc_24 : List (List (Nat × smI)) := [[(0, .aload_n 0, 1, 0, 0, 0), (1, .invokespecial 3, 3, 0, 0, 0), (4, .aload_n 0, 1, 0, 0, 0), (5, .sipush 1000, 3, 1000, 0, 0), (8, .newarray .int, 2, 0, 0, 0), (10, .putfield 9, 3, 0, 0, 1), (13, .aload_n 0, 1, 0, 0, 0), (14, .sipush 1000, 3, 1000, 0, 0)],
  [(17, .newarray .int, 2, 0, 0, 0), (19, .putfield 15, 3, 0, 1, 1), (22, .aload_n 0, 1, 0, 0, 0), (23, .iconst 0, 1, 0, 0, 0), (24, .putfield 18, 3, 0, 2, 0), (27, .aload_n 0, 1, 0, 0, 0), (28, .iconst 0, 1, 0, 0, 0), (29, .putfield 22, 3, 0, 3, 0)],
  [(32, .aload_n 0, 1, 0, 0, 0), (33, .iconst 0, 1, 0, 0, 0), (34, .putfield 25, 3, 0, 4, 0), (37, .return_, 1, 0, 0, 0)]]
/-- WornSums$Findings.<init>()V -/
def pc_25 : List (List (Nat × smI)) := [[(0, .aload_n 0, 1, 0, 0, 0), (1, .invokespecial 3, 3, 0, 0, 0), (4, .aload_n 0, 1, 0, 0, 0), (5, .bipush 6, 2, 6, 0, 0), (7, .anewarray 9, 3, 0, 0, 0), (10, .putfield 11, 3, 1, 0, 1), (13, .aload_n 0, 1, 0, 0, 0), (14, .iconst 0, 1, 0, 0, 0), (15, .putfield 17, 3, 1, 1, 2)],
  [(18, .aload_n 0, 1, 0, 0, 0), (19, .bipush 7, 2, 7, 0, 0), (21, .sipush 5995, 3, 5995, 0, 0), (24, .multianewarray 21 2, 4, 0, 0, 0), (28, .putfield 23, 3, 1, 2, 1), (31, .aload_n 0, 1, 0, 0, 0)],
  [(32, .bipush 6, 2, 6, 0, 0), (34, .newarray .int, 2, 0, 0, 0), (36, .putfield 26, 3, 1, 3, 1), (39, .aload_n 0, 1, 0, 0, 0), (40, .bipush (-9), 2, 9, 1, 0), (42, .putfield 30, 3, 1, 4, 0), (45, .aload_n 0, 1, 0, 0, 0), (46, .iconst 0, 1, 0, 0, 0), (47, .putfield 34, 3, 1, 5, 2)],
  [(50, .aload_n 0, 1, 0, 0, 0), (51, .sipush 5995, 3, 5995, 0, 0), (54, .newarray .boolean, 2, 0, 0, 0), (56, .putfield 37, 3, 1, 6, 1), (59, .aload_n 0, 1, 0, 0, 0), (60, .bipush 26, 2, 26, 0, 0), (62, .newarray .int, 2, 0, 0, 0)],
  [(64, .putfield 41, 3, 1, 7, 1), (67, .iconst 0, 1, 0, 0, 0), (68, .istore_n 1, 1, 0, 0, 0), (69, .iload_n 1, 1, 0, 0, 0), (70, .aload_n 0, 1, 0, 0, 0), (71, .getfield 11, 3, 1, 0, 1), (74, .arraylength, 1, 0, 0, 0), (75, .if_icmp .ge 22, 3, 0, 0, 0), (78, .aload_n 0, 1, 0, 0, 0), (79, .getfield 11, 3, 1, 0, 1)],
  [(82, .iload_n 1, 1, 0, 0, 0), (83, .new 9, 3, 0, 0, 0), (86, .dup, 1, 0, 0, 0), (87, .invokespecial 44, 3, 24, 0, 1), (90, .aastore, 1, 0, 0, 0), (91, .iinc 1 1, 3, 1, 0, 0), (94, .goto (-25), 3, 0, 0, 0)],
  [(97, .return_, 1, 0, 0, 0)]]
/-- WornSums.<init>()V -/
def pc_26 : List (List (Nat × smI)) := [[(0, .aload_n 0, 1, 0, 0, 0), (1, .invokespecial 3, 3, 0, 0, 0), (4, .aload_n 0, 1, 0, 0, 0), (5, .new 9, 3, 6, 0, 0), (8, .dup, 1, 0, 0, 0), (9, .invokespecial 11, 3, 0, 0, 1), (12, .putfield 12, 3, 7, 0, 1), (15, .aload_n 0, 1, 0, 0, 0)],
  [(16, .new 16, 3, 5, 0, 0), (19, .dup, 1, 0, 0, 0), (20, .invokespecial 18, 3, 3, 0, 1), (23, .putfield 19, 3, 7, 1, 1), (26, .aload_n 0, 1, 0, 0, 0), (27, .new 23, 3, 2, 0, 0), (30, .dup, 1, 0, 0, 0), (31, .invokespecial 25, 3, 5, 0, 1)],
  [(34, .putfield 26, 3, 7, 2, 1), (37, .aload_n 0, 1, 0, 0, 0), (38, .iconst 2, 1, 2, 0, 0), (39, .invokestatic 30, 3, 4, 1, 0), (42, .putfield 34, 3, 7, 3, 1), (45, .aload_n 0, 1, 0, 0, 0), (46, .iconst 2, 1, 2, 0, 0), (47, .newarray .boolean, 2, 0, 0, 0)],
  [(49, .putfield 38, 3, 7, 4, 1), (52, .aload_n 0, 1, 0, 0, 0), (53, .new 42, 3, 3, 0, 0), (56, .dup, 1, 0, 0, 0), (57, .invokespecial 44, 3, 23, 0, 1), (60, .putfield 45, 3, 7, 5, 1), (63, .aload_n 0, 1, 0, 0, 0)],
  [(64, .new 49, 3, 1, 0, 0), (67, .dup, 1, 0, 0, 0), (68, .invokespecial 51, 3, 25, 0, 1), (71, .putfield 52, 3, 7, 6, 1), (74, .return_, 1, 0, 0, 0)]]
/-- WornSums$Text.add(C)Z -/
def pc_27 : List (List (Nat × smI)) := [[(0, .aload_n 0, 1, 0, 0, 0), (1, .getfield 15, 3, 6, 1, 0), (4, .aload_n 0, 1, 0, 0, 0), (5, .getfield 9, 3, 6, 0, 1), (8, .arraylength, 1, 0, 0, 0), (9, .if_icmp .lt 5, 3, 0, 0, 0), (12, .iconst 0, 1, 0, 0, 0), (13, .ireturn, 1, 0, 0, 1), (14, .aload_n 0, 1, 0, 0, 0), (15, .getfield 9, 3, 6, 0, 1)],
  [(18, .aload_n 0, 1, 0, 0, 0), (19, .getfield 15, 3, 6, 1, 0), (22, .iload_n 1, 1, 0, 0, 0), (23, .castore, 1, 0, 0, 0), (24, .aload_n 0, 1, 0, 0, 0), (25, .dup, 1, 0, 0, 0), (26, .getfield 15, 3, 6, 1, 0), (29, .iconst 1, 1, 1, 0, 0), (30, .iadd, 1, 0, 0, 0), (31, .putfield 15, 3, 6, 1, 0)],
  [(34, .iconst 1, 1, 1, 0, 0), (35, .ireturn, 1, 0, 0, 1)]]
/-- WornSums.type(I)I -/
def pc_28 : List (List (Nat × smI)) := [[(0, .iload_n 1, 1, 0, 0, 0), (1, .ifCond .lt 10, 3, 0, 0, 0), (4, .iload_n 1, 1, 0, 0, 0), (5, .sipush 255, 3, 255, 0, 0), (8, .if_icmp .le 5, 3, 0, 0, 0), (11, .iconst (-1), 1, 1, 1, 0), (12, .ireturn, 1, 0, 0, 0), (13, .aload_n 0, 1, 0, 0, 0), (14, .getfield 12, 3, 7, 0, 1)],
  [(17, .iload_n 1, 1, 0, 0, 0), (18, .i2c, 1, 0, 0, 0), (19, .invokevirtual 56, 3, 27, 1, 7), (22, .ifCond .eq 13, 3, 0, 0, 0), (25, .aload_n 0, 1, 0, 0, 0), (26, .getfield 12, 3, 7, 0, 1), (29, .getfield 60, 3, 6, 1, 0)],
  [(32, .goto 5, 3, 0, 0, 0), (35, .bipush (-3), 2, 3, 1, 0), (37, .ireturn, 1, 0, 0, 0)]]
/-- WornSums.clear()I -/
def pc_29 : List (List (Nat × smI)) := [[(0, .aload_n 0, 1, 0, 0, 0), (1, .getfield 12, 3, 7, 0, 1), (4, .getfield 60, 3, 6, 1, 0), (7, .istore_n 1, 1, 0, 0, 0), (8, .aload_n 0, 1, 0, 0, 0), (9, .getfield 12, 3, 7, 0, 1), (12, .iconst 0, 1, 0, 0, 0), (13, .putfield 60, 3, 6, 1, 0)],
  [(16, .iload_n 1, 1, 0, 0, 0), (17, .ireturn, 1, 0, 0, 0)]]
/-- WornSums$Text.at(I)C -/
def pc_30 : List (List (Nat × smI)) := [[(0, .iload_n 1, 1, 0, 0, 0), (1, .ifCond .lt 29, 3, 0, 0, 0), (4, .iload_n 1, 1, 0, 0, 0), (5, .aload_n 0, 1, 0, 0, 0), (6, .getfield 15, 3, 6, 1, 0), (9, .if_icmp .ge 21, 3, 0, 0, 0), (12, .iload_n 1, 1, 0, 0, 0), (13, .aload_n 0, 1, 0, 0, 0), (14, .getfield 9, 3, 6, 0, 1)],
  [(17, .arraylength, 1, 0, 0, 0), (18, .if_icmp .ge 12, 3, 0, 0, 0), (21, .aload_n 0, 1, 0, 0, 0), (22, .getfield 9, 3, 6, 0, 1), (25, .iload_n 1, 1, 0, 0, 0), (26, .caload, 1, 0, 0, 0), (27, .goto 4, 3, 0, 0, 0), (30, .iconst 0, 1, 0, 0, 0), (31, .ireturn, 1, 0, 0, 2)]]
/-- WornSums.isLetter(I)Z -/
def pc_31 : List (List (Nat × smI)) := [[(0, .iload_n 0, 1, 0, 0, 0), (1, .bipush 97, 2, 97, 0, 0), (3, .if_icmp .lt 13, 3, 0, 0, 0), (6, .iload_n 0, 1, 0, 0, 0), (7, .bipush 122, 2, 122, 0, 0), (9, .if_icmp .gt 7, 3, 0, 0, 0), (12, .iconst 1, 1, 1, 0, 0), (13, .goto 4, 3, 0, 0, 0)],
  [(16, .iconst 0, 1, 0, 0, 0), (17, .ireturn, 1, 0, 0, 1)]]
/-- WornSums$Text.standsInWords(I)Z -/
def pc_32 : List (List (Nat × smI)) := [[(0, .aload_n 0, 1, 0, 0, 0), (1, .iload_n 1, 1, 0, 0, 0), (2, .invokevirtual 23, 3, 30, 1, 7), (5, .istore_n 2, 1, 0, 0, 0), (6, .iload_n 2, 1, 0, 0, 0), (7, .bipush 61, 2, 61, 0, 0), (9, .if_icmp .ne 13, 3, 0, 0, 0), (12, .iload_n 1, 1, 0, 0, 0), (13, .ifCond .le 7, 3, 0, 0, 0)],
  [(16, .iconst 1, 1, 1, 0, 0), (17, .goto 4, 3, 0, 0, 0), (20, .iconst 0, 1, 0, 0, 0), (21, .ireturn, 1, 0, 0, 1), (22, .iload_n 1, 1, 0, 0, 0), (23, .bipush 31, 2, 31, 0, 0), (25, .if_icmp .lt 5, 3, 0, 0, 0), (28, .iconst 0, 1, 0, 0, 0), (29, .ireturn, 1, 0, 0, 1), (30, .iload_n 2, 1, 0, 0, 0), (31, .bipush 32, 2, 32, 0, 0)],
  [(33, .if_icmp .ne 37, 3, 0, 0, 0), (36, .iload_n 1, 1, 0, 0, 0), (37, .ifCond .le 31, 3, 0, 0, 0), (40, .aload_n 0, 1, 0, 0, 0), (41, .iload_n 1, 1, 0, 0, 0), (42, .iconst 1, 1, 1, 0, 0), (43, .isub, 1, 0, 0, 0), (44, .invokevirtual 23, 3, 30, 1, 7), (47, .bipush 32, 2, 32, 0, 0)],
  [(49, .if_icmp .eq 19, 3, 0, 0, 0), (52, .aload_n 0, 1, 0, 0, 0), (53, .iload_n 1, 1, 0, 0, 0), (54, .iconst 1, 1, 1, 0, 0), (55, .iadd, 1, 0, 0, 0), (56, .invokevirtual 23, 3, 30, 1, 7), (59, .bipush 61, 2, 61, 0, 0), (61, .if_icmp .eq 7, 3, 0, 0, 0)],
  [(64, .iconst 1, 1, 1, 0, 0), (65, .goto 4, 3, 0, 0, 0), (68, .iconst 0, 1, 0, 0, 0), (69, .ireturn, 1, 0, 0, 1), (70, .iload_n 2, 1, 0, 0, 0), (71, .bipush 63, 2, 63, 0, 0), (73, .if_icmp .eq 10, 3, 0, 0, 0), (76, .iload_n 2, 1, 0, 0, 0), (77, .invokestatic 31, 3, 31, 1, 0)],
  [(80, .ifCond .eq 7, 3, 0, 0, 0), (83, .iconst 1, 1, 1, 0, 0), (84, .goto 4, 3, 0, 0, 0), (87, .iconst 0, 1, 0, 0, 0), (88, .ireturn, 1, 0, 0, 1)]]
/-- WornSums.isFigureSign(I)Z -/
def pc_33 : List (List (Nat × smI)) := [[(0, .iload_n 0, 1, 0, 0, 0), (1, .bipush 48, 2, 48, 0, 0), (3, .if_icmp .lt 13, 3, 0, 0, 0), (6, .iload_n 0, 1, 0, 0, 0), (7, .bipush 57, 2, 57, 0, 0), (9, .if_icmp .gt 7, 3, 0, 0, 0), (12, .iconst 1, 1, 1, 0, 0), (13, .goto 4, 3, 0, 0, 0)],
  [(16, .iconst 0, 1, 0, 0, 0), (17, .ireturn, 1, 0, 0, 1)]]
/-- WornSums$Text.standsInFigures(IC)Z -/
def pc_34 : List (List (Nat × smI)) := [[(0, .iload_n 0, 1, 0, 0, 0), (1, .iconst 3, 1, 3, 0, 0), (2, .if_icmp .gt 20, 3, 0, 0, 0), (5, .iload_n 1, 1, 0, 0, 0), (6, .bipush 63, 2, 63, 0, 0), (8, .if_icmp .eq 10, 3, 0, 0, 0), (11, .iload_n 1, 1, 0, 0, 0), (12, .invokestatic 34, 3, 33, 1, 0), (15, .ifCond .eq 7, 3, 0, 0, 0)],
  [(18, .iconst 1, 1, 1, 0, 0), (19, .goto 4, 3, 0, 0, 0), (22, .iconst 0, 1, 0, 0, 0), (23, .ireturn, 1, 0, 0, 1)]]
/-- WornSums$Text.fault()I -/
def pc_35 : List (List (Nat × smI)) := [[(0, .bipush (-9), 2, 9, 1, 0), (2, .istore_n 1, 1, 0, 0, 0), (3, .iconst 0, 1, 0, 0, 0), (4, .istore_n 2, 1, 0, 0, 0), (5, .iload_n 2, 1, 0, 0, 0), (6, .aload_n 0, 1, 0, 0, 0), (7, .getfield 15, 3, 6, 1, 0), (10, .if_icmp .ge 53, 3, 0, 0, 0), (13, .iload_n 1, 1, 0, 0, 0), (14, .bipush (-9), 2, 9, 1, 0)],
  [(16, .if_icmp .ne 11, 3, 0, 0, 0), (19, .aload_n 0, 1, 0, 0, 0), (20, .iload_n 2, 1, 0, 0, 0), (21, .invokevirtual 19, 3, 32, 1, 7), (24, .goto 14, 3, 0, 0, 0), (27, .iload_n 2, 1, 0, 0, 0), (28, .iload_n 1, 1, 0, 0, 0), (29, .isub, 1, 0, 0, 0), (30, .aload_n 0, 1, 0, 0, 0), (31, .iload_n 2, 1, 0, 0, 0)],
  [(32, .invokevirtual 23, 3, 30, 1, 7), (35, .invokestatic 27, 3, 34, 2, 0), (38, .istore_n 3, 1, 0, 0, 0), (39, .iload_n 3, 1, 0, 0, 0), (40, .ifCond .ne 5, 3, 0, 0, 0), (43, .iload_n 2, 1, 0, 0, 0), (44, .ireturn, 1, 0, 0, 0), (45, .aload_n 0, 1, 0, 0, 0), (46, .iload_n 2, 1, 0, 0, 0), (47, .invokevirtual 23, 3, 30, 1, 7)],
  [(50, .bipush 61, 2, 61, 0, 0), (52, .if_icmp .ne 5, 3, 0, 0, 0), (55, .iload_n 2, 1, 0, 0, 0), (56, .istore_n 1, 1, 0, 0, 0), (57, .iinc 2 1, 3, 1, 0, 0), (60, .goto (-55), 3, 0, 0, 0), (63, .iload_n 1, 1, 0, 0, 0)],
  [(64, .bipush (-9), 2, 9, 1, 0), (66, .if_icmp .eq 13, 3, 0, 0, 0), (69, .iload_n 1, 1, 0, 0, 0), (70, .aload_n 0, 1, 0, 0, 0), (71, .getfield 15, 3, 6, 1, 0), (74, .iconst 1, 1, 1, 0, 0), (75, .isub, 1, 0, 0, 0), (76, .if_icmp .ne 7, 3, 0, 0, 0), (79, .iconst 1, 1, 1, 0, 0)],
  [(80, .goto 4, 3, 0, 0, 0), (83, .iconst 0, 1, 0, 0, 0), (84, .istore_n 2, 1, 0, 0, 0), (85, .iload_n 2, 1, 0, 0, 0), (86, .ifCond .eq 10, 3, 0, 0, 0), (89, .aload_n 0, 1, 0, 0, 0), (90, .getfield 15, 3, 6, 1, 0), (93, .goto 5, 3, 0, 0, 0)],
  [(96, .bipush (-9), 2, 9, 1, 0), (98, .ireturn, 1, 0, 0, 0)]]
/-- WornSums$Row.hasPlace(I)Z -/
def pc_36 : List (List (Nat × smI)) := [[(0, .iload_n 1, 1, 0, 0, 0), (1, .ifCond .lt 24, 3, 0, 0, 0), (4, .iload_n 1, 1, 0, 0, 0), (5, .aload_n 0, 1, 0, 0, 0), (6, .getfield 9, 3, 4, 1, 0), (9, .if_icmp .ge 16, 3, 0, 0, 0), (12, .iload_n 1, 1, 0, 0, 0), (13, .aload_n 0, 1, 0, 0, 0), (14, .getfield 21, 3, 4, 0, 1)],
  [(17, .arraylength, 1, 0, 0, 0), (18, .if_icmp .ge 7, 3, 0, 0, 0), (21, .iconst 1, 1, 1, 0, 0), (22, .goto 4, 3, 0, 0, 0), (25, .iconst 0, 1, 0, 0, 0), (26, .ireturn, 1, 0, 0, 1)]]
/-- WornSums$Row.at(I)C -/
def pc_37 : List (List (Nat × smI)) := [[(0, .aload_n 0, 1, 0, 0, 0), (1, .iload_n 1, 1, 0, 0, 0), (2, .invokevirtual 25, 3, 36, 1, 5), (5, .ifCond .eq 12, 3, 0, 0, 0), (8, .aload_n 0, 1, 0, 0, 0), (9, .getfield 21, 3, 4, 0, 1), (12, .iload_n 1, 1, 0, 0, 0), (13, .caload, 1, 0, 0, 0), (14, .goto 4, 3, 0, 0, 0)],
  [(17, .iconst 0, 1, 0, 0, 0), (18, .ireturn, 1, 0, 0, 2)]]
/-- WornSums$Row.put(IC)V -/
def pc_38 : List (List (Nat × smI)) := [[(0, .aload_n 0, 1, 0, 0, 0), (1, .iload_n 1, 1, 0, 0, 0), (2, .invokevirtual 25, 3, 36, 1, 5), (5, .ifCond .eq 10, 3, 0, 0, 0), (8, .aload_n 0, 1, 0, 0, 0), (9, .getfield 21, 3, 4, 0, 1), (12, .iload_n 1, 1, 0, 0, 0), (13, .iload_n 2, 1, 0, 0, 0), (14, .castore, 1, 0, 0, 0), (15, .return_, 1, 0, 0, 0)]]
/-- WornSums$Row.copyFrom(LWornSums$Row;)V -/
def pc_39 : List (List (Nat × smI)) := [[(0, .aload_n 0, 1, 0, 0, 0), (1, .aload_n 1, 1, 0, 0, 0), (2, .getfield 9, 3, 4, 1, 0), (5, .aload_n 0, 1, 0, 0, 0), (6, .getfield 21, 3, 4, 0, 1), (9, .arraylength, 1, 0, 0, 0), (10, .invokestatic 29, 3, 0, 0, 2), (13, .putfield 9, 3, 4, 1, 0)],
  [(16, .iconst 0, 1, 0, 0, 0), (17, .istore_n 2, 1, 0, 0, 0), (18, .iload_n 2, 1, 0, 0, 0), (19, .aload_n 0, 1, 0, 0, 0), (20, .getfield 9, 3, 4, 1, 0), (23, .if_icmp .ge 19, 3, 0, 0, 0), (26, .aload_n 0, 1, 0, 0, 0), (27, .iload_n 2, 1, 0, 0, 0), (28, .aload_n 1, 1, 0, 0, 0), (29, .iload_n 2, 1, 0, 0, 0), (30, .invokevirtual 42, 3, 37, 1, 5)],
  [(33, .invokevirtual 38, 3, 38, 2, 5), (36, .iinc 2 1, 3, 1, 0, 0), (39, .goto (-21), 3, 0, 0, 0), (42, .return_, 1, 0, 0, 0)]]
/-- WornSums$Sheet.copyFrom(LWornSums$Sheet;)V -/
def pc_40 : List (List (Nat × smI)) := [[(0, .aload_n 0, 1, 0, 0, 0), (1, .aload_n 1, 1, 0, 0, 0), (2, .getfield 22, 3, 5, 2, 0), (5, .bipush 6, 2, 6, 0, 0), (7, .invokestatic 70, 3, 0, 0, 2), (10, .putfield 22, 3, 5, 2, 0), (13, .aload_n 0, 1, 0, 0, 0), (14, .aload_n 1, 1, 0, 0, 0), (15, .getfield 26, 3, 5, 3, 0)],
  [(18, .putfield 26, 3, 5, 3, 0), (21, .aload_n 0, 1, 0, 0, 0), (22, .aload_n 1, 1, 0, 0, 0), (23, .getfield 29, 3, 5, 4, 0), (26, .putfield 29, 3, 5, 4, 0), (29, .iconst 0, 1, 0, 0, 0), (30, .istore_n 2, 1, 0, 0, 0), (31, .iload_n 2, 1, 0, 0, 0)],
  [(32, .aload_n 0, 1, 0, 0, 0), (33, .getfield 22, 3, 5, 2, 0), (36, .if_icmp .ge 39, 3, 0, 0, 0), (39, .aload_n 0, 1, 0, 0, 0), (40, .getfield 15, 3, 5, 0, 1), (43, .iload_n 2, 1, 0, 0, 0), (44, .aaload, 1, 0, 0, 0), (45, .aload_n 1, 1, 0, 0, 0), (46, .getfield 15, 3, 5, 0, 1)],
  [(49, .iload_n 2, 1, 0, 0, 0), (50, .aaload, 1, 0, 0, 0), (51, .invokevirtual 66, 3, 39, 1, 5), (54, .aload_n 0, 1, 0, 0, 0), (55, .getfield 19, 3, 5, 1, 1), (58, .iload_n 2, 1, 0, 0, 0), (59, .aaload, 1, 0, 0, 0), (60, .aload_n 1, 1, 0, 0, 0), (61, .getfield 19, 3, 5, 1, 1)],
  [(64, .iload_n 2, 1, 0, 0, 0), (65, .aaload, 1, 0, 0, 0), (66, .invokevirtual 66, 3, 39, 1, 5), (69, .iinc 2 1, 3, 1, 0, 0), (72, .goto (-41), 3, 0, 0, 0), (75, .return_, 1, 0, 0, 0)]]
/-- WornSums$History.remember(LWornSums$Sheet;)V -/
def pc_41 : List (List (Nat × smI)) := [[(0, .aload_n 0, 1, 0, 0, 0), (1, .getfield 13, 3, 2, 0, 1), (4, .aload_n 0, 1, 0, 0, 0), (5, .getfield 19, 3, 2, 1, 0), (8, .invokestatic 26, 3, 92, 1, 0), (11, .aaload, 1, 0, 0, 0), (12, .aload_n 1, 1, 0, 0, 0), (13, .invokevirtual 30, 3, 40, 1, 6)],
  [(16, .aload_n 0, 1, 0, 0, 0), (17, .aload_n 0, 1, 0, 0, 0), (18, .getfield 19, 3, 2, 1, 0), (21, .iconst 1, 1, 1, 0, 0), (22, .iadd, 1, 0, 0, 0), (23, .invokestatic 26, 3, 92, 1, 0), (26, .putfield 19, 3, 2, 1, 0), (29, .aload_n 0, 1, 0, 0, 0), (30, .aload_n 0, 1, 0, 0, 0), (31, .getfield 23, 3, 2, 2, 0)],
  [(34, .iconst 1, 1, 1, 0, 0), (35, .iadd, 1, 0, 0, 0), (36, .bipush 8, 2, 8, 0, 0), (38, .invokestatic 36, 3, 0, 0, 2), (41, .putfield 23, 3, 2, 2, 0), (44, .return_, 1, 0, 0, 0)]]
/-- WornSums$Findings.forget()V -/
def pc_42 : List (List (Nat × smI)) := [[(0, .aload_n 0, 1, 0, 0, 0), (1, .iconst 0, 1, 0, 0, 0), (2, .putfield 17, 3, 1, 1, 2), (5, .aload_n 0, 1, 0, 0, 0), (6, .iconst 0, 1, 0, 0, 0), (7, .putfield 34, 3, 1, 5, 2), (10, .return_, 1, 0, 0, 0)]]
/-- WornSums.startChange()V -/
def pc_43 : List (List (Nat × smI)) := [[(0, .aload_n 0, 1, 0, 0, 0), (1, .getfield 26, 3, 7, 2, 1), (4, .aload_n 0, 1, 0, 0, 0), (5, .getfield 19, 3, 7, 1, 1), (8, .invokevirtual 197, 3, 41, 1, 3), (11, .aload_n 0, 1, 0, 0, 0), (12, .getfield 52, 3, 7, 6, 1), (15, .invokevirtual 122, 3, 42, 0, 2)],
  [(18, .return_, 1, 0, 0, 0)]]
/-- WornSums$Text.equalsPlace()I -/
def pc_44 : List (List (Nat × smI)) := [[(0, .iconst 0, 1, 0, 0, 0), (1, .istore_n 1, 1, 0, 0, 0), (2, .iload_n 1, 1, 0, 0, 0), (3, .aload_n 0, 1, 0, 0, 0), (4, .getfield 15, 3, 6, 1, 0), (7, .if_icmp .ge 21, 3, 0, 0, 0), (10, .aload_n 0, 1, 0, 0, 0), (11, .iload_n 1, 1, 0, 0, 0), (12, .invokevirtual 23, 3, 30, 1, 7), (15, .bipush 61, 2, 61, 0, 0)],
  [(17, .if_icmp .ne 5, 3, 0, 0, 0), (20, .iload_n 1, 1, 0, 0, 0), (21, .ireturn, 1, 0, 0, 0), (22, .iinc 1 1, 3, 1, 0, 0), (25, .goto (-23), 3, 0, 0, 0), (28, .aload_n 0, 1, 0, 0, 0), (29, .getfield 15, 3, 6, 1, 0)],
  [(32, .ireturn, 1, 0, 0, 0)]]
/-- WornSums$Row.takeFrom(LWornSums$Text;II)V -/
def pc_45 : List (List (Nat × smI)) := [[(0, .aload_n 0, 1, 0, 0, 0), (1, .iconst 0, 1, 0, 0, 0), (2, .iload_n 3, 1, 0, 0, 0), (3, .iload_n 2, 1, 0, 0, 0), (4, .isub, 1, 0, 0, 0), (5, .aload_n 0, 1, 0, 0, 0), (6, .getfield 21, 3, 4, 0, 1), (9, .arraylength, 1, 0, 0, 0), (10, .invokestatic 29, 3, 0, 0, 2), (13, .invokestatic 15, 3, 0, 0, 1)],
  [(16, .putfield 9, 3, 4, 1, 0), (19, .iconst 0, 1, 0, 0, 0), (20, .istore 4, 2, 0, 0, 0), (22, .iload 4, 2, 0, 0, 0), (24, .aload_n 0, 1, 0, 0, 0), (25, .getfield 9, 3, 4, 1, 0), (28, .if_icmp .ge 23, 3, 0, 0, 0), (31, .aload_n 0, 1, 0, 0, 0)],
  [(32, .iload 4, 2, 0, 0, 0), (34, .aload_n 1, 1, 0, 0, 0), (35, .iload_n 2, 1, 0, 0, 0), (36, .iload 4, 2, 0, 0, 0), (38, .iadd, 1, 0, 0, 0), (39, .invokevirtual 32, 3, 30, 1, 7), (42, .invokevirtual 38, 3, 38, 2, 5), (45, .iinc 4 1, 3, 1, 0, 0)],
  [(48, .goto (-26), 3, 0, 0, 0), (51, .return_, 1, 0, 0, 0)]]
/-- WornSums$Sheet.addEntry(LWornSums$Text;)V -/
def pc_46 : List (List (Nat × smI)) := [[(0, .aload_n 0, 1, 0, 0, 0), (1, .getfield 22, 3, 5, 2, 0), (4, .bipush 6, 2, 6, 0, 0), (6, .if_icmp .lt 4, 3, 0, 0, 0), (9, .return_, 1, 0, 0, 0), (10, .aload_n 1, 1, 0, 0, 0), (11, .invokevirtual 56, 3, 44, 0, 7), (14, .istore_n 2, 1, 0, 0, 0), (15, .aload_n 0, 1, 0, 0, 0)],
  [(16, .getfield 15, 3, 5, 0, 1), (19, .aload_n 0, 1, 0, 0, 0), (20, .getfield 22, 3, 5, 2, 0), (23, .aaload, 1, 0, 0, 0), (24, .aload_n 1, 1, 0, 0, 0), (25, .iconst 0, 1, 0, 0, 0), (26, .iload_n 2, 1, 0, 0, 0), (27, .invokevirtual 61, 3, 45, 3, 5), (30, .aload_n 0, 1, 0, 0, 0), (31, .getfield 19, 3, 5, 1, 1)],
  [(34, .aload_n 0, 1, 0, 0, 0), (35, .getfield 22, 3, 5, 2, 0), (38, .aaload, 1, 0, 0, 0), (39, .aload_n 1, 1, 0, 0, 0), (40, .iload_n 2, 1, 0, 0, 0), (41, .iconst 1, 1, 1, 0, 0), (42, .iadd, 1, 0, 0, 0), (43, .aload_n 1, 1, 0, 0, 0), (44, .getfield 65, 3, 6, 1, 0), (47, .invokevirtual 61, 3, 45, 3, 5)],
  [(50, .aload_n 0, 1, 0, 0, 0), (51, .dup, 1, 0, 0, 0), (52, .getfield 22, 3, 5, 2, 0), (55, .iconst 1, 1, 1, 0, 0), (56, .iadd, 1, 0, 0, 0), (57, .putfield 22, 3, 5, 2, 0), (60, .return_, 1, 0, 0, 0)]]
/-- WornSums.tells()I -/
def pc_47 : List (List (Nat × smI)) := [[(0, .aload_n 0, 1, 0, 0, 0), (1, .getfield 19, 3, 7, 1, 1), (4, .getfield 64, 3, 5, 2, 0), (7, .bipush 6, 2, 6, 0, 0), (9, .if_icmp .lt 6, 3, 0, 0, 0), (12, .bipush (-3), 2, 3, 1, 0), (14, .ireturn, 1, 0, 0, 0), (15, .aload_n 0, 1, 0, 0, 0)],
  [(16, .getfield 12, 3, 7, 0, 1), (19, .invokevirtual 67, 3, 35, 0, 7), (22, .istore_n 1, 1, 0, 0, 0), (23, .iload_n 1, 1, 0, 0, 0), (24, .bipush (-9), 2, 9, 1, 0), (26, .if_icmp .eq 8, 3, 0, 0, 0), (29, .bipush (-10), 2, 10, 1, 0), (31, .iload_n 1, 1, 0, 0, 0)],
  [(32, .isub, 1, 0, 0, 0), (33, .ireturn, 1, 0, 0, 0), (34, .aload_n 0, 1, 0, 0, 0), (35, .invokevirtual 71, 3, 43, 0, 8), (38, .aload_n 0, 1, 0, 0, 0), (39, .getfield 19, 3, 7, 1, 1), (42, .aload_n 0, 1, 0, 0, 0), (43, .getfield 12, 3, 7, 0, 1), (46, .invokevirtual 74, 3, 46, 1, 6)],
  [(49, .aload_n 0, 1, 0, 0, 0), (50, .getfield 12, 3, 7, 0, 1), (53, .iconst 0, 1, 0, 0, 0), (54, .putfield 60, 3, 6, 1, 0), (57, .aload_n 0, 1, 0, 0, 0), (58, .getfield 19, 3, 7, 1, 1), (61, .getfield 64, 3, 5, 2, 0)],
  [(64, .iconst 1, 1, 1, 0, 0), (65, .isub, 1, 0, 0, 0), (66, .ireturn, 1, 0, 0, 0)]]
/-- WornSums$Sheet.hasEntry(I)Z -/
def pc_48 : List (List (Nat × smI)) := [[(0, .iload_n 1, 1, 0, 0, 0), (1, .ifCond .lt 21, 3, 0, 0, 0), (4, .iload_n 1, 1, 0, 0, 0), (5, .aload_n 0, 1, 0, 0, 0), (6, .getfield 22, 3, 5, 2, 0), (9, .if_icmp .ge 13, 3, 0, 0, 0), (12, .iload_n 1, 1, 0, 0, 0), (13, .bipush 6, 2, 6, 0, 0), (15, .if_icmp .ge 7, 3, 0, 0, 0)],
  [(18, .iconst 1, 1, 1, 0, 0), (19, .goto 4, 3, 0, 0, 0), (22, .iconst 0, 1, 0, 0, 0), (23, .ireturn, 1, 0, 0, 1)]]
/-- WornSums$Sheet.removeEntry(I)V -/
def pc_49 : List (List (Nat × smI)) := [[(0, .aload_n 0, 1, 0, 0, 0), (1, .iload_n 1, 1, 0, 0, 0), (2, .invokevirtual 37, 3, 48, 1, 6), (5, .ifCond .ne 4, 3, 0, 0, 0), (8, .return_, 1, 0, 0, 0), (9, .iload_n 1, 1, 0, 0, 0), (10, .istore_n 2, 1, 0, 0, 0), (11, .iload_n 2, 1, 0, 0, 0), (12, .aload_n 0, 1, 0, 0, 0), (13, .getfield 22, 3, 5, 2, 0)],
  [(16, .iconst 1, 1, 1, 0, 0), (17, .isub, 1, 0, 0, 0), (18, .if_icmp .ge 48, 3, 0, 0, 0), (21, .iload_n 2, 1, 0, 0, 0), (22, .iconst 5, 1, 5, 0, 0), (23, .if_icmp .ge 43, 3, 0, 0, 0), (26, .aload_n 0, 1, 0, 0, 0), (27, .getfield 15, 3, 5, 0, 1), (30, .iload_n 2, 1, 0, 0, 0), (31, .aaload, 1, 0, 0, 0)],
  [(32, .aload_n 0, 1, 0, 0, 0), (33, .getfield 15, 3, 5, 0, 1), (36, .iload_n 2, 1, 0, 0, 0), (37, .iconst 1, 1, 1, 0, 0), (38, .iadd, 1, 0, 0, 0), (39, .aaload, 1, 0, 0, 0), (40, .invokevirtual 66, 3, 39, 1, 5), (43, .aload_n 0, 1, 0, 0, 0), (44, .getfield 19, 3, 5, 1, 1), (47, .iload_n 2, 1, 0, 0, 0)],
  [(48, .aaload, 1, 0, 0, 0), (49, .aload_n 0, 1, 0, 0, 0), (50, .getfield 19, 3, 5, 1, 1), (53, .iload_n 2, 1, 0, 0, 0), (54, .iconst 1, 1, 1, 0, 0), (55, .iadd, 1, 0, 0, 0), (56, .aaload, 1, 0, 0, 0), (57, .invokevirtual 66, 3, 39, 1, 5), (60, .iinc 2 1, 3, 1, 0, 0), (63, .goto (-52), 3, 0, 0, 0)],
  [(66, .aload_n 0, 1, 0, 0, 0), (67, .dup, 1, 0, 0, 0), (68, .getfield 22, 3, 5, 2, 0), (71, .iconst 1, 1, 1, 0, 0), (72, .isub, 1, 0, 0, 0), (73, .putfield 22, 3, 5, 2, 0), (76, .return_, 1, 0, 0, 0)]]
/-- WornSums.drops(I)I -/
def pc_50 : List (List (Nat × smI)) := [[(0, .aload_n 0, 1, 0, 0, 0), (1, .getfield 19, 3, 7, 1, 1), (4, .iload_n 1, 1, 0, 0, 0), (5, .invokevirtual 78, 3, 48, 1, 6), (8, .ifCond .ne 5, 3, 0, 0, 0), (11, .iconst (-1), 1, 1, 1, 0), (12, .ireturn, 1, 0, 0, 0), (13, .aload_n 0, 1, 0, 0, 0), (14, .invokevirtual 71, 3, 43, 0, 8)],
  [(17, .aload_n 0, 1, 0, 0, 0), (18, .getfield 19, 3, 7, 1, 1), (21, .iload_n 1, 1, 0, 0, 0), (22, .invokevirtual 82, 3, 49, 1, 6), (25, .aload_n 0, 1, 0, 0, 0), (26, .getfield 19, 3, 7, 1, 1), (29, .getfield 64, 3, 5, 2, 0)],
  [(32, .ireturn, 1, 0, 0, 0)]]
/-- WornSums$Sheet.rowOf(II)LWornSums$Row; -/
def pc_51 : List (List (Nat × smI)) := [[(0, .aload_n 0, 1, 0, 0, 0), (1, .iload_n 1, 1, 0, 0, 0), (2, .invokevirtual 37, 3, 48, 1, 6), (5, .ifCond .eq 12, 3, 0, 0, 0), (8, .iload_n 2, 1, 0, 0, 0), (9, .ifCond .lt 8, 3, 0, 0, 0), (12, .iload_n 2, 1, 0, 0, 0), (13, .iconst 1, 1, 1, 0, 0), (14, .if_icmp .le 5, 3, 0, 0, 0)],
  [(17, .aconst_null, 1, 0, 0, 0), (18, .areturn, 1, 0, 0, 0), (19, .iload_n 2, 1, 0, 0, 0), (20, .ifCond .ne 12, 3, 0, 0, 0), (23, .aload_n 0, 1, 0, 0, 0), (24, .getfield 15, 3, 5, 0, 1), (27, .iload_n 1, 1, 0, 0, 0), (28, .aaload, 1, 0, 0, 0), (29, .goto 9, 3, 0, 0, 0)],
  [(32, .aload_n 0, 1, 0, 0, 0), (33, .getfield 19, 3, 5, 1, 1), (36, .iload_n 1, 1, 0, 0, 0), (37, .aaload, 1, 0, 0, 0), (38, .areturn, 1, 0, 0, 0)]]
/-- WornSums.wears(III)I -/
def pc_52 : List (List (Nat × smI)) := [[(0, .aload_n 0, 1, 0, 0, 0), (1, .getfield 19, 3, 7, 1, 1), (4, .iload_n 1, 1, 0, 0, 0), (5, .iload_n 2, 1, 0, 0, 0), (6, .invokevirtual 86, 3, 51, 2, 6), (9, .astore 4, 2, 0, 0, 0), (11, .aload 4, 2, 0, 0, 0), (13, .ifnull 12, 3, 0, 0, 0)],
  [(16, .aload 4, 2, 0, 0, 0), (18, .iload_n 3, 1, 0, 0, 0), (19, .invokevirtual 90, 3, 36, 1, 5), (22, .ifCond .ne 5, 3, 0, 0, 0), (25, .iconst (-1), 1, 1, 1, 0), (26, .ireturn, 1, 0, 0, 0), (27, .aload 4, 2, 0, 0, 0), (29, .iload_n 3, 1, 0, 0, 0), (30, .invokevirtual 95, 3, 37, 1, 5)],
  [(33, .istore 5, 2, 0, 0, 0), (35, .iload 5, 2, 0, 0, 0), (37, .bipush 63, 2, 63, 0, 0), (39, .if_icmp .eq 10, 3, 0, 0, 0), (42, .iload 5, 2, 0, 0, 0), (44, .bipush 32, 2, 32, 0, 0), (46, .if_icmp .ne 6, 3, 0, 0, 0)],
  [(49, .bipush (-2), 2, 2, 1, 0), (51, .ireturn, 1, 0, 0, 0), (52, .aload_n 0, 1, 0, 0, 0), (53, .invokevirtual 71, 3, 43, 0, 8), (56, .aload 4, 2, 0, 0, 0), (58, .iload_n 3, 1, 0, 0, 0), (59, .bipush 63, 2, 63, 0, 0), (61, .invokevirtual 99, 3, 38, 2, 5)],
  [(64, .iload 5, 2, 0, 0, 0), (66, .ireturn, 1, 0, 0, 0)]]
/-- WornSums.canBeMadeOut(II)Z -/
def pc_53 : List (List (Nat × smI)) := [[(0, .iload_n 0, 1, 0, 0, 0), (1, .ifCond .ne 10, 3, 0, 0, 0), (4, .iload_n 1, 1, 0, 0, 0), (5, .invokestatic 203, 3, 31, 1, 0), (8, .goto 7, 3, 0, 0, 0), (11, .iload_n 1, 1, 0, 0, 0), (12, .invokestatic 206, 3, 33, 1, 0), (15, .ireturn, 1, 0, 0, 1)]]
/-- WornSums$Row.worn()I -/
def pc_54 : List (List (Nat × smI)) := [[(0, .iconst 0, 1, 0, 0, 0), (1, .istore_n 1, 1, 0, 0, 0), (2, .iconst 0, 1, 0, 0, 0), (3, .istore_n 2, 1, 0, 0, 0), (4, .iload_n 2, 1, 0, 0, 0), (5, .aload_n 0, 1, 0, 0, 0), (6, .getfield 9, 3, 4, 1, 0), (9, .if_icmp .ge 22, 3, 0, 0, 0), (12, .aload_n 0, 1, 0, 0, 0), (13, .iload_n 2, 1, 0, 0, 0), (14, .invokevirtual 42, 3, 37, 1, 5)],
  [(17, .bipush 63, 2, 63, 0, 0), (19, .if_icmp .ne 6, 3, 0, 0, 0), (22, .iinc 1 1, 3, 1, 0, 0), (25, .iinc 2 1, 3, 1, 0, 0), (28, .goto (-24), 3, 0, 0, 0), (31, .iload_n 1, 1, 0, 0, 0)],
  [(32, .ireturn, 1, 0, 0, 0)]]
/-- WornSums$Sheet.wornIn(I)I -/
def pc_55 : List (List (Nat × smI)) := [[(0, .aload_n 0, 1, 0, 0, 0), (1, .iload_n 1, 1, 0, 0, 0), (2, .invokevirtual 37, 3, 48, 1, 6), (5, .ifCond .eq 25, 3, 0, 0, 0), (8, .aload_n 0, 1, 0, 0, 0), (9, .getfield 15, 3, 5, 0, 1), (12, .iload_n 1, 1, 0, 0, 0), (13, .aaload, 1, 0, 0, 0), (14, .invokevirtual 48, 3, 54, 0, 5)],
  [(17, .aload_n 0, 1, 0, 0, 0), (18, .getfield 19, 3, 5, 1, 1), (21, .iload_n 1, 1, 0, 0, 0), (22, .aaload, 1, 0, 0, 0), (23, .invokevirtual 48, 3, 54, 0, 5), (26, .iadd, 1, 0, 0, 0), (27, .goto 4, 3, 0, 0, 0), (30, .iconst 0, 1, 0, 0, 0), (31, .ireturn, 1, 0, 0, 0)]]
/-- WornSums.makes(IIII)I -/
def pc_56 : List (List (Nat × smI)) := [[(0, .aload_n 0, 1, 0, 0, 0), (1, .getfield 19, 3, 7, 1, 1), (4, .iload_n 1, 1, 0, 0, 0), (5, .iload_n 2, 1, 0, 0, 0), (6, .invokevirtual 86, 3, 51, 2, 6), (9, .astore 5, 2, 0, 0, 0), (11, .aload 5, 2, 0, 0, 0), (13, .ifnull 21, 3, 0, 0, 0)],
  [(16, .aload 5, 2, 0, 0, 0), (18, .iload_n 3, 1, 0, 0, 0), (19, .invokevirtual 90, 3, 36, 1, 5), (22, .ifCond .eq 12, 3, 0, 0, 0), (25, .iload_n 2, 1, 0, 0, 0), (26, .iload 4, 2, 0, 0, 0), (28, .invokestatic 103, 3, 53, 2, 0), (31, .ifCond .ne 5, 3, 0, 0, 0)],
  [(34, .iconst (-1), 1, 1, 1, 0), (35, .ireturn, 1, 0, 0, 0), (36, .aload 5, 2, 0, 0, 0), (38, .iload_n 3, 1, 0, 0, 0), (39, .invokevirtual 95, 3, 37, 1, 5), (42, .bipush 63, 2, 63, 0, 0), (44, .if_icmp .eq 6, 3, 0, 0, 0), (47, .bipush (-2), 2, 2, 1, 0)],
  [(49, .ireturn, 1, 0, 0, 0), (50, .aload_n 0, 1, 0, 0, 0), (51, .invokevirtual 71, 3, 43, 0, 8), (54, .aload 5, 2, 0, 0, 0), (56, .iload_n 3, 1, 0, 0, 0), (57, .iload 4, 2, 0, 0, 0), (59, .i2c, 1, 0, 0, 0), (60, .invokevirtual 99, 3, 38, 2, 5), (63, .aload_n 0, 1, 0, 0, 0)],
  [(64, .getfield 19, 3, 7, 1, 1), (67, .iload_n 1, 1, 0, 0, 0), (68, .invokevirtual 107, 3, 55, 1, 6), (71, .ireturn, 1, 0, 0, 0)]]
/-- WornSums.slacks(I)I -/
def pc_57 : List (List (Nat × smI)) := [[(0, .iload_n 1, 1, 0, 0, 0), (1, .ifCond .lt 8, 3, 0, 0, 0), (4, .iload_n 1, 1, 0, 0, 0), (5, .iconst 2, 1, 2, 0, 0), (6, .if_icmp .le 5, 3, 0, 0, 0), (9, .iconst (-1), 1, 1, 1, 0), (10, .ireturn, 1, 0, 0, 0), (11, .aload_n 0, 1, 0, 0, 0), (12, .getfield 19, 3, 7, 1, 1), (15, .getfield 111, 3, 5, 3, 0)],
  [(18, .istore_n 2, 1, 0, 0, 0), (19, .iload_n 1, 1, 0, 0, 0), (20, .iload_n 2, 1, 0, 0, 0), (21, .if_icmp .ne 6, 3, 0, 0, 0), (24, .bipush (-2), 2, 2, 1, 0), (26, .ireturn, 1, 0, 0, 0), (27, .aload_n 0, 1, 0, 0, 0), (28, .invokevirtual 71, 3, 43, 0, 8), (31, .aload_n 0, 1, 0, 0, 0)],
  [(32, .getfield 19, 3, 7, 1, 1), (35, .iload_n 1, 1, 0, 0, 0), (36, .putfield 111, 3, 5, 3, 0), (39, .iload_n 2, 1, 0, 0, 0), (40, .ireturn, 1, 0, 0, 0)]]
/-- WornSums.totals(I)I -/
def pc_58 : List (List (Nat × smI)) := [[(0, .iload_n 1, 1, 0, 0, 0), (1, .bipush (-9), 2, 9, 1, 0), (3, .if_icmp .eq 16, 3, 0, 0, 0), (6, .iload_n 1, 1, 0, 0, 0), (7, .ifCond .lt 10, 3, 0, 0, 0), (10, .iload_n 1, 1, 0, 0, 0), (11, .sipush 9999, 3, 9999, 0, 0), (14, .if_icmp .le 5, 3, 0, 0, 0)],
  [(17, .iconst (-1), 1, 1, 1, 0), (18, .ireturn, 1, 0, 0, 0), (19, .aload_n 0, 1, 0, 0, 0), (20, .getfield 19, 3, 7, 1, 1), (23, .getfield 114, 3, 5, 4, 0), (26, .istore_n 2, 1, 0, 0, 0), (27, .iload_n 1, 1, 0, 0, 0), (28, .iload_n 2, 1, 0, 0, 0), (29, .if_icmp .ne 6, 3, 0, 0, 0)],
  [(32, .bipush (-2), 2, 2, 1, 0), (34, .ireturn, 1, 0, 0, 0), (35, .aload_n 0, 1, 0, 0, 0), (36, .invokevirtual 71, 3, 43, 0, 8), (39, .aload_n 0, 1, 0, 0, 0), (40, .getfield 19, 3, 7, 1, 1), (43, .iload_n 1, 1, 0, 0, 0), (44, .putfield 114, 3, 5, 4, 0), (47, .iload_n 2, 1, 0, 0, 0)],
  [(48, .ireturn, 1, 0, 0, 0)]]
/-- WornSums$History.takeBack(LWornSums$Sheet;)V -/
def pc_59 : List (List (Nat × smI)) := [[(0, .aload_n 0, 1, 0, 0, 0), (1, .getfield 23, 3, 2, 2, 0), (4, .ifCond .ne 4, 3, 0, 0, 0), (7, .return_, 1, 0, 0, 0), (8, .aload_n 0, 1, 0, 0, 0), (9, .aload_n 0, 1, 0, 0, 0), (10, .getfield 19, 3, 2, 1, 0), (13, .iconst 1, 1, 1, 0, 0), (14, .isub, 1, 0, 0, 0), (15, .invokestatic 26, 3, 92, 1, 0)],
  [(18, .putfield 19, 3, 2, 1, 0), (21, .aload_n 1, 1, 0, 0, 0), (22, .aload_n 0, 1, 0, 0, 0), (23, .getfield 13, 3, 2, 0, 1), (26, .aload_n 0, 1, 0, 0, 0), (27, .getfield 19, 3, 2, 1, 0), (30, .aaload, 1, 0, 0, 0), (31, .invokevirtual 30, 3, 40, 1, 6)],
  [(34, .aload_n 0, 1, 0, 0, 0), (35, .dup, 1, 0, 0, 0), (36, .getfield 23, 3, 2, 2, 0), (39, .iconst 1, 1, 1, 0, 0), (40, .isub, 1, 0, 0, 0), (41, .putfield 23, 3, 2, 2, 0), (44, .return_, 1, 0, 0, 0)]]
/-- WornSums.undo()I -/
def pc_60 : List (List (Nat × smI)) := [[(0, .aload_n 0, 1, 0, 0, 0), (1, .getfield 26, 3, 7, 2, 1), (4, .getfield 117, 3, 2, 2, 0), (7, .ifCond .ne 6, 3, 0, 0, 0), (10, .bipush (-2), 2, 2, 1, 0), (12, .ireturn, 1, 0, 0, 0), (13, .aload_n 0, 1, 0, 0, 0), (14, .getfield 26, 3, 7, 2, 1)],
  [(17, .aload_n 0, 1, 0, 0, 0), (18, .getfield 19, 3, 7, 1, 1), (21, .invokevirtual 118, 3, 59, 1, 3), (24, .aload_n 0, 1, 0, 0, 0), (25, .getfield 52, 3, 7, 6, 1), (28, .invokevirtual 122, 3, 42, 0, 2), (31, .aload_n 0, 1, 0, 0, 0)],
  [(32, .getfield 26, 3, 7, 2, 1), (35, .getfield 117, 3, 2, 2, 0), (38, .ireturn, 1, 0, 0, 0)]]
/-- WornSums$Sheet.lengthOf(II)I -/
def pc_61 : List (List (Nat × smI)) := [[(0, .aload_n 0, 1, 0, 0, 0), (1, .iload_n 1, 1, 0, 0, 0), (2, .iload_n 2, 1, 0, 0, 0), (3, .invokevirtual 41, 3, 51, 2, 6), (6, .astore_n 3, 1, 0, 0, 0), (7, .aload_n 3, 1, 0, 0, 0), (8, .ifnonnull 7, 3, 0, 0, 0), (11, .iconst 0, 1, 0, 0, 0), (12, .goto 7, 3, 0, 0, 0), (15, .aload_n 3, 1, 0, 0, 0)],
  [(16, .getfield 45, 3, 4, 1, 0), (19, .ireturn, 1, 0, 0, 0)]]
/-- WornSums$NumberWords.doubtOf(LWornSums$Row;II)I -/
def pc_62 : List (List (Nat × smI)) := [[(0, .aload_n 1, 1, 0, 0, 0), (1, .getfield 77, 3, 4, 1, 0), (4, .aload_n 0, 1, 0, 0, 0), (5, .iload_n 3, 1, 0, 0, 0), (6, .invokevirtual 65, 3, 16, 1, 4), (9, .if_icmp .eq 6, 3, 0, 0, 0), (12, .bipush (-9), 2, 9, 1, 0), (14, .ireturn, 1, 0, 0, 0), (15, .iconst 0, 1, 0, 0, 0)],
  [(16, .istore 4, 2, 0, 0, 0), (18, .iconst 0, 1, 0, 0, 0), (19, .istore 5, 2, 0, 0, 0), (21, .iconst 0, 1, 0, 0, 0), (22, .istore 6, 2, 0, 0, 0), (24, .iload 6, 2, 0, 0, 0), (26, .aload_n 1, 1, 0, 0, 0), (27, .getfield 77, 3, 4, 1, 0), (30, .if_icmp .ge 82, 3, 0, 0, 0)],
  [(33, .aload_n 1, 1, 0, 0, 0), (34, .iload 6, 2, 0, 0, 0), (36, .invokevirtual 82, 3, 37, 1, 5), (39, .istore 7, 2, 0, 0, 0), (41, .aload_n 0, 1, 0, 0, 0), (42, .iload_n 3, 1, 0, 0, 0), (43, .iload 6, 2, 0, 0, 0), (45, .invokevirtual 69, 3, 17, 2, 4)],
  [(48, .istore 8, 2, 0, 0, 0), (50, .iload 7, 2, 0, 0, 0), (52, .bipush 32, 2, 32, 0, 0), (54, .if_icmp .ne 7, 3, 0, 0, 0), (57, .iconst 1, 1, 1, 0, 0), (58, .goto 4, 3, 0, 0, 0), (61, .iconst 0, 1, 0, 0, 0), (62, .iload 8, 2, 0, 0, 0)],
  [(64, .bipush 32, 2, 32, 0, 0), (66, .if_icmp .ne 7, 3, 0, 0, 0), (69, .iconst 1, 1, 1, 0, 0), (70, .goto 4, 3, 0, 0, 0), (73, .iconst 0, 1, 0, 0, 0), (74, .if_icmp .eq 6, 3, 0, 0, 0), (77, .bipush (-9), 2, 9, 1, 0), (79, .ireturn, 1, 0, 0, 0)],
  [(80, .iload 7, 2, 0, 0, 0), (82, .bipush 63, 2, 63, 0, 0), (84, .if_icmp .ne 9, 3, 0, 0, 0), (87, .iinc 4 1, 3, 1, 0, 0), (90, .goto 16, 3, 0, 0, 0), (93, .iload 7, 2, 0, 0, 0), (95, .iload 8, 2, 0, 0, 0)],
  [(97, .if_icmp .eq 9, 3, 0, 0, 0), (100, .iinc 4 3, 3, 3, 0, 0), (103, .iinc 5 1, 3, 1, 0, 0), (106, .iinc 6 1, 3, 1, 0, 0), (109, .goto (-85), 3, 0, 0, 0)],
  [(112, .iload 5, 2, 0, 0, 0), (114, .iload_n 2, 1, 0, 0, 0), (115, .if_icmp .gt 8, 3, 0, 0, 0), (118, .iload 4, 2, 0, 0, 0), (120, .goto 5, 3, 0, 0, 0), (123, .bipush (-9), 2, 9, 1, 0), (125, .ireturn, 1, 0, 0, 0)]]
/-- WornSums$Figures.lengthOf(I)I -/
def pc_63 : List (List (Nat × smI)) := [[(0, .iload_n 0, 1, 0, 0, 0), (1, .bipush 10, 2, 10, 0, 0), (3, .if_icmp .ge 5, 3, 0, 0, 0), (6, .iconst 1, 1, 1, 0, 0), (7, .ireturn, 1, 0, 0, 0), (8, .iload_n 0, 1, 0, 0, 0), (9, .bipush 100, 2, 100, 0, 0), (11, .if_icmp .ge 7, 3, 0, 0, 0), (14, .iconst 2, 1, 2, 0, 0), (15, .goto 4, 3, 0, 0, 0)],
  [(18, .iconst 3, 1, 3, 0, 0), (19, .ireturn, 1, 0, 0, 0)]]
/-- WornSums$Figures.areAlike(II)Z -/
def pc_64 : List (List (Nat × smI)) := [[(0, .iload_n 0, 1, 0, 0, 0), (1, .iload_n 1, 1, 0, 0, 0), (2, .invokestatic 29, 3, 0, 0, 2), (5, .istore_n 2, 1, 0, 0, 0), (6, .iload_n 0, 1, 0, 0, 0), (7, .iload_n 1, 1, 0, 0, 0), (8, .invokestatic 35, 3, 0, 0, 1), (11, .istore_n 3, 1, 0, 0, 0), (12, .iconst 0, 1, 0, 0, 0), (13, .istore 4, 2, 0, 0, 0), (15, .iload 4, 2, 0, 0, 0)],
  [(17, .iconst 1, 1, 1, 0, 0), (18, .iadd, 1, 0, 0, 0), (19, .ldc 38, 2, 5, 0, 1), (21, .invokevirtual 40, 3, 7, 0, 0), (24, .if_icmp .ge 35, 3, 0, 0, 0), (27, .ldc 38, 2, 5, 0, 1), (29, .iload 4, 2, 0, 0, 0), (31, .invokevirtual 45, 3, 12, 1, 0)],
  [(34, .iload_n 2, 1, 0, 0, 0), (35, .if_icmp .ne 18, 3, 0, 0, 0), (38, .ldc 38, 2, 5, 0, 1), (40, .iload 4, 2, 0, 0, 0), (42, .iconst 1, 1, 1, 0, 0), (43, .iadd, 1, 0, 0, 0), (44, .invokevirtual 45, 3, 12, 1, 0), (47, .iload_n 3, 1, 0, 0, 0)],
  [(48, .if_icmp .ne 5, 3, 0, 0, 0), (51, .iconst 1, 1, 1, 0, 0), (52, .ireturn, 1, 0, 0, 1), (53, .iinc 4 2, 3, 2, 0, 0), (56, .goto (-41), 3, 0, 0, 0), (59, .iconst 0, 1, 0, 0, 0), (60, .ireturn, 1, 0, 0, 1)]]
/-- WornSums$Figures.doubtOf(LWornSums$Row;I)I -/
def pc_65 : List (List (Nat × smI)) := [[(0, .aload_n 0, 1, 0, 0, 0), (1, .getfield 9, 3, 4, 1, 0), (4, .iload_n 1, 1, 0, 0, 0), (5, .invokestatic 15, 3, 63, 1, 0), (8, .if_icmp .eq 6, 3, 0, 0, 0), (11, .bipush (-9), 2, 9, 1, 0), (13, .ireturn, 1, 0, 0, 0), (14, .iconst 0, 1, 0, 0, 0), (15, .istore_n 2, 1, 0, 0, 0)],
  [(16, .iload_n 1, 1, 0, 0, 0), (17, .istore_n 3, 1, 0, 0, 0), (18, .aload_n 0, 1, 0, 0, 0), (19, .getfield 9, 3, 4, 1, 0), (22, .iconst 1, 1, 1, 0, 0), (23, .isub, 1, 0, 0, 0), (24, .istore 4, 2, 0, 0, 0), (26, .iload 4, 2, 0, 0, 0), (28, .ifCond .lt 70, 3, 0, 0, 0), (31, .aload_n 0, 1, 0, 0, 0)],
  [(32, .iload 4, 2, 0, 0, 0), (34, .invokevirtual 21, 3, 37, 1, 5), (37, .istore 5, 2, 0, 0, 0), (39, .bipush 48, 2, 48, 0, 0), (41, .iload_n 3, 1, 0, 0, 0), (42, .bipush 10, 2, 10, 0, 0), (44, .irem, 1, 0, 0, 0), (45, .iadd, 1, 0, 0, 0), (46, .istore 6, 2, 0, 0, 0)],
  [(48, .iload_n 3, 1, 0, 0, 0), (49, .bipush 10, 2, 10, 0, 0), (51, .idiv, 1, 0, 0, 0), (52, .istore_n 3, 1, 0, 0, 0), (53, .iload 5, 2, 0, 0, 0), (55, .bipush 63, 2, 63, 0, 0), (57, .if_icmp .ne 9, 3, 0, 0, 0), (60, .iinc 2 1, 3, 1, 0, 0), (63, .goto 29, 3, 0, 0, 0)],
  [(66, .iload 5, 2, 0, 0, 0), (68, .iload 6, 2, 0, 0, 0), (70, .invokestatic 25, 3, 64, 2, 0), (73, .ifCond .eq 9, 3, 0, 0, 0), (76, .iinc 2 2, 3, 2, 0, 0), (79, .goto 13, 3, 0, 0, 0)],
  [(82, .iload 5, 2, 0, 0, 0), (84, .iload 6, 2, 0, 0, 0), (86, .if_icmp .eq 6, 3, 0, 0, 0), (89, .bipush (-9), 2, 9, 1, 0), (91, .ireturn, 1, 0, 0, 0), (92, .iinc 4 (-1), 3, 1, 1, 0), (95, .goto (-69), 3, 0, 0, 0)],
  [(98, .iload_n 2, 1, 0, 0, 0), (99, .ireturn, 1, 0, 0, 0)]]
/-- WornSums$Agreeing.add(II)V -/
def pc_66 : List (List (Nat × smI)) := [[(0, .aload_n 0, 1, 0, 0, 0), (1, .getfield 18, 3, 0, 2, 0), (4, .aload_n 0, 1, 0, 0, 0), (5, .getfield 9, 3, 0, 0, 1), (8, .arraylength, 1, 0, 0, 0), (9, .if_icmp .ge 45, 3, 0, 0, 0), (12, .aload_n 0, 1, 0, 0, 0), (13, .getfield 18, 3, 0, 2, 0)],
  [(16, .aload_n 0, 1, 0, 0, 0), (17, .getfield 15, 3, 0, 1, 1), (20, .arraylength, 1, 0, 0, 0), (21, .if_icmp .ge 33, 3, 0, 0, 0), (24, .aload_n 0, 1, 0, 0, 0), (25, .getfield 9, 3, 0, 0, 1), (28, .aload_n 0, 1, 0, 0, 0), (29, .getfield 18, 3, 0, 2, 0)],
  [(32, .iload_n 1, 1, 0, 0, 0), (33, .iastore, 1, 0, 0, 0), (34, .aload_n 0, 1, 0, 0, 0), (35, .getfield 15, 3, 0, 1, 1), (38, .aload_n 0, 1, 0, 0, 0), (39, .getfield 18, 3, 0, 2, 0), (42, .iload_n 2, 1, 0, 0, 0), (43, .iastore, 1, 0, 0, 0), (44, .aload_n 0, 1, 0, 0, 0), (45, .dup, 1, 0, 0, 0), (46, .getfield 18, 3, 0, 2, 0)],
  [(49, .iconst 1, 1, 1, 0, 0), (50, .iadd, 1, 0, 0, 0), (51, .putfield 18, 3, 0, 2, 0), (54, .return_, 1, 0, 0, 0)]]
/-- WornSums$Agreeing.find(LWornSums$Row;LWornSums$Row;ILWornSums$NumberWords;)V -/
def pc_67 : List (List (Nat × smI)) := [[(0, .aload_n 0, 1, 0, 0, 0), (1, .iconst 0, 1, 0, 0, 0), (2, .putfield 18, 3, 0, 2, 0), (5, .aload_n 0, 1, 0, 0, 0), (6, .iconst 0, 1, 0, 0, 0), (7, .putfield 22, 3, 0, 3, 0), (10, .aload_n 0, 1, 0, 0, 0), (11, .iconst 0, 1, 0, 0, 0), (12, .putfield 25, 3, 0, 4, 0), (15, .iconst 0, 1, 0, 0, 0)],
  [(16, .istore 5, 2, 0, 0, 0), (18, .iload 5, 2, 0, 0, 0), (20, .sipush 1000, 3, 1000, 0, 0), (23, .if_icmp .ge 87, 3, 0, 0, 0), (26, .aload 4, 2, 0, 0, 0), (28, .aload_n 1, 1, 0, 0, 0), (29, .iload_n 3, 1, 0, 0, 0), (30, .iload 5, 2, 0, 0, 0)],
  [(32, .invokevirtual 28, 3, 62, 3, 4), (35, .istore 6, 2, 0, 0, 0), (37, .aload_n 2, 1, 0, 0, 0), (38, .iload 5, 2, 0, 0, 0), (40, .invokestatic 34, 3, 65, 2, 0), (43, .istore 7, 2, 0, 0, 0), (45, .iload 6, 2, 0, 0, 0), (47, .bipush (-9), 2, 9, 1, 0)],
  [(49, .if_icmp .eq 13, 3, 0, 0, 0), (52, .aload_n 0, 1, 0, 0, 0), (53, .dup, 1, 0, 0, 0), (54, .getfield 22, 3, 0, 3, 0), (57, .iconst 1, 1, 1, 0, 0), (58, .iadd, 1, 0, 0, 0), (59, .putfield 22, 3, 0, 3, 0), (62, .iload 7, 2, 0, 0, 0)],
  [(64, .bipush (-9), 2, 9, 1, 0), (66, .if_icmp .eq 13, 3, 0, 0, 0), (69, .aload_n 0, 1, 0, 0, 0), (70, .dup, 1, 0, 0, 0), (71, .getfield 25, 3, 0, 4, 0), (74, .iconst 1, 1, 1, 0, 0), (75, .iadd, 1, 0, 0, 0), (76, .putfield 25, 3, 0, 4, 0), (79, .iload 6, 2, 0, 0, 0)],
  [(81, .bipush (-9), 2, 9, 1, 0), (83, .if_icmp .eq 21, 3, 0, 0, 0), (86, .iload 7, 2, 0, 0, 0), (88, .bipush (-9), 2, 9, 1, 0), (90, .if_icmp .eq 14, 3, 0, 0, 0), (93, .aload_n 0, 1, 0, 0, 0), (94, .iload 5, 2, 0, 0, 0)],
  [(96, .iload 6, 2, 0, 0, 0), (98, .iload 7, 2, 0, 0, 0), (100, .iadd, 1, 0, 0, 0), (101, .invokevirtual 39, 3, 66, 2, 1), (104, .iinc 5 1, 3, 1, 0, 0), (107, .goto (-89), 3, 0, 0, 0), (110, .return_, 1, 0, 0, 0)]]
/-- WornSums$Findings.refresh(LWornSums$Sheet;LWornSums$NumberWords;)V -/
def pc_68 : List (List (Nat × smI)) := [[(0, .aload_n 0, 1, 0, 0, 0), (1, .getfield 17, 3, 1, 1, 0), (4, .ifCond .eq 4, 3, 0, 0, 0), (7, .return_, 1, 0, 0, 0), (8, .iconst 0, 1, 0, 0, 0), (9, .istore_n 3, 1, 0, 0, 0), (10, .iload_n 3, 1, 0, 0, 0), (11, .aload_n 1, 1, 0, 0, 0), (12, .getfield 45, 3, 5, 2, 0), (15, .if_icmp .ge 41, 3, 0, 0, 0)],
  [(18, .iload_n 3, 1, 0, 0, 0), (19, .bipush 6, 2, 6, 0, 0), (21, .if_icmp .ge 35, 3, 0, 0, 0), (24, .aload_n 0, 1, 0, 0, 0), (25, .getfield 11, 3, 1, 0, 1), (28, .iload_n 3, 1, 0, 0, 0), (29, .aaload, 1, 0, 0, 0), (30, .aload_n 1, 1, 0, 0, 0), (31, .getfield 50, 3, 5, 0, 1)],
  [(34, .iload_n 3, 1, 0, 0, 0), (35, .aaload, 1, 0, 0, 0), (36, .aload_n 1, 1, 0, 0, 0), (37, .getfield 54, 3, 5, 1, 1), (40, .iload_n 3, 1, 0, 0, 0), (41, .aaload, 1, 0, 0, 0), (42, .aload_n 1, 1, 0, 0, 0), (43, .getfield 57, 3, 5, 3, 0), (46, .aload_n 2, 1, 0, 0, 0), (47, .invokevirtual 60, 3, 67, 4, 1)],
  [(50, .iinc 3 1, 3, 1, 0, 0), (53, .goto (-43), 3, 0, 0, 0), (56, .aload_n 0, 1, 0, 0, 0), (57, .iconst 1, 1, 1, 0, 0), (58, .putfield 17, 3, 1, 1, 2), (61, .return_, 1, 0, 0, 0)]]
/-- WornSums$Findings.agreeingAt(I)LWornSums$Agreeing; -/
def pc_69 : List (List (Nat × smI)) := [[(0, .aload_n 0, 1, 0, 0, 0), (1, .getfield 11, 3, 1, 0, 1), (4, .iload_n 1, 1, 0, 0, 0), (5, .ifCond .lt 13, 3, 0, 0, 0), (8, .iload_n 1, 1, 0, 0, 0), (9, .bipush 6, 2, 6, 0, 0), (11, .if_icmp .ge 7, 3, 0, 0, 0), (14, .iload_n 1, 1, 0, 0, 0), (15, .goto 4, 3, 0, 0, 0)],
  [(18, .iconst 0, 1, 0, 0, 0), (19, .aaload, 1, 0, 0, 0), (20, .areturn, 1, 0, 0, 0)]]
/-- WornSums.agreeingOf(I)LWornSums$Agreeing; -/
def pc_70 : List (List (Nat × smI)) := [[(0, .aload_n 0, 1, 0, 0, 0), (1, .getfield 52, 3, 7, 6, 1), (4, .aload_n 0, 1, 0, 0, 0), (5, .getfield 19, 3, 7, 1, 1), (8, .aload_n 0, 1, 0, 0, 0), (9, .getfield 45, 3, 7, 5, 1), (12, .invokevirtual 177, 3, 68, 2, 2), (15, .aload_n 0, 1, 0, 0, 0)],
  [(16, .getfield 52, 3, 7, 6, 1), (19, .iload_n 1, 1, 0, 0, 0), (20, .invokevirtual 200, 3, 69, 1, 2), (23, .areturn, 1, 0, 0, 0)]]
/-- WornSums.entry(II)I -/
def pc_71 : List (List (Nat × smI)) := [[(0, .aload_n 0, 1, 0, 0, 0), (1, .getfield 19, 3, 7, 1, 1), (4, .iload_n 1, 1, 0, 0, 0), (5, .invokevirtual 78, 3, 48, 1, 6), (8, .ifCond .ne 5, 3, 0, 0, 0), (11, .iconst (-1), 1, 1, 1, 0), (12, .ireturn, 1, 0, 0, 0), (13, .iload_n 2, 1, 0, 0, 0), (14, .tableswitch 94 0 5 #[38, 48, 58, 67, 76, 85], 38, 0, 0, 0)],
  [],
  [],
  [(52, .aload_n 0, 1, 0, 0, 0), (53, .getfield 19, 3, 7, 1, 1), (56, .iload_n 1, 1, 0, 0, 0), (57, .iconst 0, 1, 0, 0, 0), (58, .invokevirtual 125, 3, 61, 2, 6), (61, .ireturn, 1, 0, 0, 0), (62, .aload_n 0, 1, 0, 0, 0), (63, .getfield 19, 3, 7, 1, 1)],
  [(66, .iload_n 1, 1, 0, 0, 0), (67, .iconst 1, 1, 1, 0, 0), (68, .invokevirtual 125, 3, 61, 2, 6), (71, .ireturn, 1, 0, 0, 0), (72, .aload_n 0, 1, 0, 0, 0), (73, .getfield 19, 3, 7, 1, 1), (76, .iload_n 1, 1, 0, 0, 0), (77, .invokevirtual 107, 3, 55, 1, 6)],
  [(80, .ireturn, 1, 0, 0, 0), (81, .aload_n 0, 1, 0, 0, 0), (82, .iload_n 1, 1, 0, 0, 0), (83, .invokevirtual 129, 3, 70, 1, 8), (86, .getfield 133, 3, 0, 3, 0), (89, .ireturn, 1, 0, 0, 0), (90, .aload_n 0, 1, 0, 0, 0), (91, .iload_n 1, 1, 0, 0, 0), (92, .invokevirtual 129, 3, 70, 1, 8), (95, .getfield 138, 3, 0, 4, 0)],
  [(98, .ireturn, 1, 0, 0, 0), (99, .aload_n 0, 1, 0, 0, 0), (100, .iload_n 1, 1, 0, 0, 0), (101, .invokevirtual 129, 3, 70, 1, 8), (104, .getfield 141, 3, 0, 2, 0), (107, .ireturn, 1, 0, 0, 0), (108, .iconst (-1), 1, 1, 1, 0), (109, .ireturn, 1, 0, 0, 0)]]
/-- WornSums.sign(III)I -/
def pc_72 : List (List (Nat × smI)) := [[(0, .aload_n 0, 1, 0, 0, 0), (1, .getfield 19, 3, 7, 1, 1), (4, .iload_n 1, 1, 0, 0, 0), (5, .iload_n 2, 1, 0, 0, 0), (6, .invokevirtual 86, 3, 51, 2, 6), (9, .astore 4, 2, 0, 0, 0), (11, .aload 4, 2, 0, 0, 0), (13, .ifnull 12, 3, 0, 0, 0)],
  [(16, .aload 4, 2, 0, 0, 0), (18, .iload_n 3, 1, 0, 0, 0), (19, .invokevirtual 90, 3, 36, 1, 5), (22, .ifCond .ne 7, 3, 0, 0, 0), (25, .iconst (-1), 1, 1, 1, 0), (26, .goto 9, 3, 0, 0, 0), (29, .aload 4, 2, 0, 0, 0), (31, .iload_n 3, 1, 0, 0, 0)],
  [(32, .invokevirtual 95, 3, 37, 1, 5), (35, .ireturn, 1, 0, 0, 0)]]
/-- WornSums.doubt(III)I -/
def pc_73 : List (List (Nat × smI)) := [[(0, .aload_n 0, 1, 0, 0, 0), (1, .getfield 19, 3, 7, 1, 1), (4, .iload_n 1, 1, 0, 0, 0), (5, .iload_n 3, 1, 0, 0, 0), (6, .invokevirtual 86, 3, 51, 2, 6), (9, .astore 4, 2, 0, 0, 0), (11, .aload 4, 2, 0, 0, 0), (13, .ifnull 10, 3, 0, 0, 0)],
  [(16, .iload_n 2, 1, 0, 0, 0), (17, .invokestatic 142, 3, 13, 1, 0), (20, .ifCond .ne 5, 3, 0, 0, 0), (23, .iconst (-1), 1, 1, 1, 0), (24, .ireturn, 1, 0, 0, 0), (25, .iload_n 3, 1, 0, 0, 0), (26, .ifCond .ne 23, 3, 0, 0, 0), (29, .aload_n 0, 1, 0, 0, 0), (30, .getfield 45, 3, 7, 5, 1)],
  [(33, .aload 4, 2, 0, 0, 0), (35, .aload_n 0, 1, 0, 0, 0), (36, .getfield 19, 3, 7, 1, 1), (39, .getfield 111, 3, 5, 3, 0), (42, .iload_n 2, 1, 0, 0, 0), (43, .invokevirtual 145, 3, 62, 3, 4), (46, .goto 9, 3, 0, 0, 0)],
  [(49, .aload 4, 2, 0, 0, 0), (51, .iload_n 2, 1, 0, 0, 0), (52, .invokestatic 149, 3, 65, 2, 0), (55, .ireturn, 1, 0, 0, 0)]]
/-- WornSums$Agreeing.doubtAt(I)I -/
def pc_74 : List (List (Nat × smI)) := [[(0, .iload_n 1, 1, 0, 0, 0), (1, .ifCond .lt 29, 3, 0, 0, 0), (4, .iload_n 1, 1, 0, 0, 0), (5, .aload_n 0, 1, 0, 0, 0), (6, .getfield 18, 3, 0, 2, 0), (9, .if_icmp .ge 21, 3, 0, 0, 0), (12, .iload_n 1, 1, 0, 0, 0), (13, .aload_n 0, 1, 0, 0, 0), (14, .getfield 15, 3, 0, 1, 1)],
  [(17, .arraylength, 1, 0, 0, 0), (18, .if_icmp .ge 12, 3, 0, 0, 0), (21, .aload_n 0, 1, 0, 0, 0), (22, .getfield 15, 3, 0, 1, 1), (25, .iload_n 1, 1, 0, 0, 0), (26, .iaload, 1, 0, 0, 0), (27, .goto 5, 3, 0, 0, 0), (30, .bipush (-9), 2, 9, 1, 0)],
  [(32, .ireturn, 1, 0, 0, 0)]]
/-- WornSums$Agreeing.rankOf(I)I -/
def pc_75 : List (List (Nat × smI)) := [[(0, .iconst 0, 1, 0, 0, 0), (1, .istore_n 2, 1, 0, 0, 0), (2, .iconst 0, 1, 0, 0, 0), (3, .istore_n 3, 1, 0, 0, 0), (4, .iload_n 3, 1, 0, 0, 0), (5, .aload_n 0, 1, 0, 0, 0), (6, .getfield 18, 3, 0, 2, 0), (9, .if_icmp .ge 67, 3, 0, 0, 0), (12, .aload_n 0, 1, 0, 0, 0), (13, .iload_n 3, 1, 0, 0, 0), (14, .invokevirtual 50, 3, 74, 1, 1)],
  [(17, .aload_n 0, 1, 0, 0, 0), (18, .iload_n 1, 1, 0, 0, 0), (19, .invokevirtual 50, 3, 74, 1, 1), (22, .if_icmp .ge 7, 3, 0, 0, 0), (25, .iconst 1, 1, 1, 0, 0), (26, .goto 4, 3, 0, 0, 0), (29, .iconst 0, 1, 0, 0, 0), (30, .istore 4, 2, 0, 0, 0)],
  [(32, .aload_n 0, 1, 0, 0, 0), (33, .iload_n 3, 1, 0, 0, 0), (34, .invokevirtual 50, 3, 74, 1, 1), (37, .aload_n 0, 1, 0, 0, 0), (38, .iload_n 1, 1, 0, 0, 0), (39, .invokevirtual 50, 3, 74, 1, 1), (42, .if_icmp .ne 12, 3, 0, 0, 0), (45, .iload_n 3, 1, 0, 0, 0), (46, .iload_n 1, 1, 0, 0, 0), (47, .if_icmp .ge 7, 3, 0, 0, 0)],
  [(50, .iconst 1, 1, 1, 0, 0), (51, .goto 4, 3, 0, 0, 0), (54, .iconst 0, 1, 0, 0, 0), (55, .istore 5, 2, 0, 0, 0), (57, .iload 4, 2, 0, 0, 0), (59, .ifCond .ne 8, 3, 0, 0, 0), (62, .iload 5, 2, 0, 0, 0)],
  [(64, .ifCond .eq 6, 3, 0, 0, 0), (67, .iinc 2 1, 3, 1, 0, 0), (70, .iinc 3 1, 3, 1, 0, 0), (73, .goto (-69), 3, 0, 0, 0), (76, .iload_n 2, 1, 0, 0, 0), (77, .ireturn, 1, 0, 0, 0)]]
/-- WornSums$Agreeing.indexOfRank(I)I -/
def pc_76 : List (List (Nat × smI)) := [[(0, .iconst 0, 1, 0, 0, 0), (1, .istore_n 2, 1, 0, 0, 0), (2, .iload_n 2, 1, 0, 0, 0), (3, .aload_n 0, 1, 0, 0, 0), (4, .getfield 18, 3, 0, 2, 0), (7, .if_icmp .ge 20, 3, 0, 0, 0), (10, .aload_n 0, 1, 0, 0, 0), (11, .iload_n 2, 1, 0, 0, 0), (12, .invokevirtual 47, 3, 75, 1, 1), (15, .iload_n 1, 1, 0, 0, 0)],
  [(16, .if_icmp .ne 5, 3, 0, 0, 0), (19, .iload_n 2, 1, 0, 0, 0), (20, .ireturn, 1, 0, 0, 0), (21, .iinc 2 1, 3, 1, 0, 0), (24, .goto (-22), 3, 0, 0, 0), (27, .bipush (-9), 2, 9, 1, 0), (29, .ireturn, 1, 0, 0, 0)]]
/-- WornSums$Agreeing.numberAt(I)I -/
def pc_77 : List (List (Nat × smI)) := [[(0, .iload_n 1, 1, 0, 0, 0), (1, .ifCond .lt 29, 3, 0, 0, 0), (4, .iload_n 1, 1, 0, 0, 0), (5, .aload_n 0, 1, 0, 0, 0), (6, .getfield 18, 3, 0, 2, 0), (9, .if_icmp .ge 21, 3, 0, 0, 0), (12, .iload_n 1, 1, 0, 0, 0), (13, .aload_n 0, 1, 0, 0, 0), (14, .getfield 9, 3, 0, 0, 1)],
  [(17, .arraylength, 1, 0, 0, 0), (18, .if_icmp .ge 12, 3, 0, 0, 0), (21, .aload_n 0, 1, 0, 0, 0), (22, .getfield 9, 3, 0, 0, 1), (25, .iload_n 1, 1, 0, 0, 0), (26, .iaload, 1, 0, 0, 0), (27, .goto 5, 3, 0, 0, 0), (30, .bipush (-9), 2, 9, 1, 0)],
  [(32, .ireturn, 1, 0, 0, 0)]]
/-- WornSums.ranked(III)I -/
def pc_78 : List (List (Nat × smI)) := [[(0, .aload_n 0, 1, 0, 0, 0), (1, .getfield 19, 3, 7, 1, 1), (4, .iload_n 1, 1, 0, 0, 0), (5, .invokevirtual 78, 3, 48, 1, 6), (8, .ifCond .eq 16, 3, 0, 0, 0), (11, .iload_n 2, 1, 0, 0, 0), (12, .ifCond .lt 12, 3, 0, 0, 0), (15, .iload_n 3, 1, 0, 0, 0)],
  [(16, .ifCond .lt 8, 3, 0, 0, 0), (19, .iload_n 3, 1, 0, 0, 0), (20, .iconst 1, 1, 1, 0, 0), (21, .if_icmp .le 5, 3, 0, 0, 0), (24, .iconst (-1), 1, 1, 1, 0), (25, .ireturn, 1, 0, 0, 0), (26, .aload_n 0, 1, 0, 0, 0), (27, .iload_n 1, 1, 0, 0, 0), (28, .invokevirtual 129, 3, 70, 1, 8), (31, .astore 4, 2, 0, 0, 0)],
  [(33, .aload 4, 2, 0, 0, 0), (35, .iload_n 2, 1, 0, 0, 0), (36, .invokevirtual 154, 3, 76, 1, 1), (39, .istore 5, 2, 0, 0, 0), (41, .iload 5, 2, 0, 0, 0), (43, .bipush (-9), 2, 9, 1, 0), (45, .if_icmp .ne 6, 3, 0, 0, 0)],
  [(48, .bipush (-9), 2, 9, 1, 0), (50, .ireturn, 1, 0, 0, 0), (51, .iload_n 3, 1, 0, 0, 0), (52, .ifCond .ne 13, 3, 0, 0, 0), (55, .aload 4, 2, 0, 0, 0), (57, .iload 5, 2, 0, 0, 0), (59, .invokevirtual 157, 3, 77, 1, 1), (62, .goto 10, 3, 0, 0, 0)],
  [(65, .aload 4, 2, 0, 0, 0), (67, .iload 5, 2, 0, 0, 0), (69, .invokevirtual 160, 3, 74, 1, 1), (72, .ireturn, 1, 0, 0, 0)]]
/-- WornSums.word(II)I -/
def pc_79 : List (List (Nat × smI)) := [[(0, .iload_n 1, 1, 0, 0, 0), (1, .invokestatic 142, 3, 13, 1, 0), (4, .ifCond .eq 8, 3, 0, 0, 0), (7, .iload_n 2, 1, 0, 0, 0), (8, .iconst (-1), 1, 1, 1, 0), (9, .if_icmp .ge 5, 3, 0, 0, 0), (12, .iconst (-1), 1, 1, 1, 0), (13, .ireturn, 1, 0, 0, 0), (14, .iload_n 2, 1, 0, 0, 0), (15, .iconst (-1), 1, 1, 1, 0)],
  [(16, .if_icmp .ne 14, 3, 0, 0, 0), (19, .aload_n 0, 1, 0, 0, 0), (20, .getfield 45, 3, 7, 5, 1), (23, .iload_n 1, 1, 0, 0, 0), (24, .invokevirtual 163, 3, 16, 1, 4), (27, .goto 12, 3, 0, 0, 0), (30, .aload_n 0, 1, 0, 0, 0), (31, .getfield 45, 3, 7, 5, 1)],
  [(34, .iload_n 1, 1, 0, 0, 0), (35, .iload_n 2, 1, 0, 0, 0), (36, .invokevirtual 165, 3, 17, 2, 4), (39, .ireturn, 1, 0, 0, 0)]]
/-- WornSums$Findings.alteredAmong(I)I -/
def pc_80 : List (List (Nat × smI)) := [[(0, .iconst 0, 1, 0, 0, 0), (1, .istore_n 2, 1, 0, 0, 0), (2, .iconst 0, 1, 0, 0, 0), (3, .istore_n 3, 1, 0, 0, 0), (4, .iload_n 3, 1, 0, 0, 0), (5, .iload_n 1, 1, 0, 0, 0), (6, .if_icmp .ge 30, 3, 0, 0, 0), (9, .iload_n 3, 1, 0, 0, 0), (10, .bipush 6, 2, 6, 0, 0), (12, .if_icmp .ge 24, 3, 0, 0, 0), (15, .aload_n 0, 1, 0, 0, 0)],
  [(16, .getfield 11, 3, 1, 0, 1), (19, .iload_n 3, 1, 0, 0, 0), (20, .aaload, 1, 0, 0, 0), (21, .getfield 64, 3, 0, 2, 0), (24, .ifCond .ne 6, 3, 0, 0, 0), (27, .iinc 2 1, 3, 1, 0, 0), (30, .iinc 3 1, 3, 1, 0, 0)],
  [(33, .goto (-29), 3, 0, 0, 0), (36, .iload_n 2, 1, 0, 0, 0), (37, .ireturn, 1, 0, 0, 0)]]
/-- WornSums$Findings.findLeastOfAnySum(I)V -/
def pc_81 : List (List (Nat × smI)) := [[(0, .aload_n 0, 1, 0, 0, 0), (1, .iconst 0, 1, 0, 0, 0), (2, .putfield 30, 3, 1, 4, 0), (5, .iconst 0, 1, 0, 0, 0), (6, .istore_n 2, 1, 0, 0, 0), (7, .iload_n 2, 1, 0, 0, 0), (8, .iload_n 1, 1, 0, 0, 0), (9, .if_icmp .ge 61, 3, 0, 0, 0), (12, .iload_n 2, 1, 0, 0, 0), (13, .bipush 6, 2, 6, 0, 0), (15, .if_icmp .ge 55, 3, 0, 0, 0)],
  [(18, .aload_n 0, 1, 0, 0, 0), (19, .getfield 11, 3, 1, 0, 1), (22, .iload_n 2, 1, 0, 0, 0), (23, .aaload, 1, 0, 0, 0), (24, .iconst 0, 1, 0, 0, 0), (25, .invokevirtual 90, 3, 76, 1, 1), (28, .istore_n 3, 1, 0, 0, 0), (29, .aload_n 0, 1, 0, 0, 0), (30, .getfield 26, 3, 1, 3, 1)],
  [(33, .iload_n 2, 1, 0, 0, 0), (34, .aload_n 0, 1, 0, 0, 0), (35, .getfield 11, 3, 1, 0, 1), (38, .iload_n 2, 1, 0, 0, 0), (39, .aaload, 1, 0, 0, 0), (40, .iload_n 3, 1, 0, 0, 0), (41, .invokevirtual 93, 3, 77, 1, 1), (44, .iastore, 1, 0, 0, 0), (45, .aload_n 0, 1, 0, 0, 0), (46, .dup, 1, 0, 0, 0), (47, .getfield 30, 3, 1, 4, 0)],
  [(50, .aload_n 0, 1, 0, 0, 0), (51, .getfield 11, 3, 1, 0, 1), (54, .iload_n 2, 1, 0, 0, 0), (55, .aaload, 1, 0, 0, 0), (56, .iload_n 3, 1, 0, 0, 0), (57, .invokevirtual 96, 3, 74, 1, 1), (60, .iadd, 1, 0, 0, 0), (61, .putfield 30, 3, 1, 4, 0)],
  [(64, .iinc 2 1, 3, 1, 0, 0), (67, .goto (-60), 3, 0, 0, 0), (70, .return_, 1, 0, 0, 0)]]
/-- java/util/Arrays.fill([II)V -/
def pc_82 : List (List (Nat × smI)) := [[(0, .iconst 0, 1, 0, 0, 0), (1, .istore_n 2, 1, 0, 0, 0), (2, .aload_n 0, 1, 0, 0, 0), (3, .arraylength, 1, 0, 0, 0), (4, .istore_n 3, 1, 0, 0, 0), (5, .iload_n 2, 1, 0, 0, 0), (6, .iload_n 3, 1, 0, 0, 0), (7, .if_icmp .ge 13, 3, 0, 0, 0), (10, .aload_n 0, 1, 0, 0, 0), (11, .iload_n 2, 1, 0, 0, 0), (12, .iload_n 1, 1, 0, 0, 0), (13, .iastore, 1, 0, 0, 0), (14, .iinc 2 1, 3, 1, 0, 0)],
  [(17, .goto (-12), 3, 0, 0, 0), (20, .return_, 1, 0, 0, 0)]]
/-- WornSums$Agreeing.highest()I -/
def pc_83 : List (List (Nat × smI)) := [[(0, .aload_n 0, 1, 0, 0, 0), (1, .getfield 18, 3, 0, 2, 0), (4, .ifCond .ne 7, 3, 0, 0, 0), (7, .iconst 0, 1, 0, 0, 0), (8, .goto 13, 3, 0, 0, 0), (11, .aload_n 0, 1, 0, 0, 0), (12, .aload_n 0, 1, 0, 0, 0), (13, .getfield 18, 3, 0, 2, 0)],
  [(16, .iconst 1, 1, 1, 0, 0), (17, .isub, 1, 0, 0, 0), (18, .invokevirtual 43, 3, 77, 1, 1), (21, .ireturn, 1, 0, 0, 0)]]
/-- WornSums$Findings.doubtWith(LWornSums$Agreeing;I[II)I -/
def pc_84 : List (List (Nat × smI)) := [[(0, .iload_n 3, 1, 0, 0, 0), (1, .aload_n 0, 1, 0, 0, 0), (2, .iload_n 1, 1, 0, 0, 0), (3, .invokevirtual 93, 3, 77, 1, 1), (6, .isub, 1, 0, 0, 0), (7, .istore 4, 2, 0, 0, 0), (9, .iload 4, 2, 0, 0, 0), (11, .ifCond .lt 18, 3, 0, 0, 0), (14, .iload 4, 2, 0, 0, 0)],
  [(16, .aload_n 2, 1, 0, 0, 0), (17, .arraylength, 1, 0, 0, 0), (18, .if_icmp .ge 11, 3, 0, 0, 0), (21, .aload_n 2, 1, 0, 0, 0), (22, .iload 4, 2, 0, 0, 0), (24, .iaload, 1, 0, 0, 0), (25, .iconst (-1), 1, 1, 1, 0), (26, .if_icmp .ne 5, 3, 0, 0, 0), (29, .iconst (-1), 1, 1, 1, 0), (30, .ireturn, 1, 0, 0, 0), (31, .aload_n 0, 1, 0, 0, 0)],
  [(32, .iload_n 1, 1, 0, 0, 0), (33, .invokevirtual 96, 3, 74, 1, 1), (36, .aload_n 2, 1, 0, 0, 0), (37, .iload 4, 2, 0, 0, 0), (39, .iaload, 1, 0, 0, 0), (40, .iadd, 1, 0, 0, 0), (41, .ireturn, 1, 0, 0, 0)]]
/-- WornSums$Findings.leastAt(LWornSums$Agreeing;[II)I -/
def pc_85 : List (List (Nat × smI)) := [[(0, .iconst (-1), 1, 1, 1, 0), (1, .istore_n 3, 1, 0, 0, 0), (2, .iconst 0, 1, 0, 0, 0), (3, .istore 4, 2, 0, 0, 0), (5, .iload 4, 2, 0, 0, 0), (7, .aload_n 0, 1, 0, 0, 0), (8, .getfield 64, 3, 0, 2, 0), (11, .if_icmp .ge 39, 3, 0, 0, 0), (14, .aload_n 0, 1, 0, 0, 0), (15, .iload 4, 2, 0, 0, 0)],
  [(17, .aload_n 1, 1, 0, 0, 0), (18, .iload_n 2, 1, 0, 0, 0), (19, .invokestatic 120, 3, 84, 4, 0), (22, .istore 5, 2, 0, 0, 0), (24, .iload 5, 2, 0, 0, 0), (26, .iconst (-1), 1, 1, 1, 0), (27, .if_icmp .eq 17, 3, 0, 0, 0), (30, .iload_n 3, 1, 0, 0, 0), (31, .iconst (-1), 1, 1, 1, 0)],
  [(32, .if_icmp .eq 9, 3, 0, 0, 0), (35, .iload 5, 2, 0, 0, 0), (37, .iload_n 3, 1, 0, 0, 0), (38, .if_icmp .ge 6, 3, 0, 0, 0), (41, .iload 5, 2, 0, 0, 0), (43, .istore_n 3, 1, 0, 0, 0), (44, .iinc 4 1, 3, 1, 0, 0), (47, .goto (-42), 3, 0, 0, 0)],
  [(50, .iload_n 3, 1, 0, 0, 0), (51, .ireturn, 1, 0, 0, 0)]]
/-- WornSums$Findings.fillLeastBySum(II)V -/
def pc_86 : List (List (Nat × smI)) := [[(0, .iconst 0, 1, 0, 0, 0), (1, .istore_n 3, 1, 0, 0, 0), (2, .iload_n 3, 1, 0, 0, 0), (3, .iload_n 1, 1, 0, 0, 0), (4, .if_icmp .gt 25, 3, 0, 0, 0), (7, .iload_n 3, 1, 0, 0, 0), (8, .bipush 6, 2, 6, 0, 0), (10, .if_icmp .gt 19, 3, 0, 0, 0), (13, .aload_n 0, 1, 0, 0, 0), (14, .getfield 23, 3, 1, 2, 1)],
  [(17, .iload_n 3, 1, 0, 0, 0), (18, .aaload, 1, 0, 0, 0), (19, .iconst (-1), 1, 1, 1, 0), (20, .invokestatic 106, 3, 82, 2, 0), (23, .iinc 3 1, 3, 1, 0, 0), (26, .goto (-24), 3, 0, 0, 0), (29, .iload_n 1, 1, 0, 0, 0), (30, .ifCond .lt 18, 3, 0, 0, 0)],
  [(33, .iload_n 1, 1, 0, 0, 0), (34, .bipush 6, 2, 6, 0, 0), (36, .if_icmp .gt 12, 3, 0, 0, 0), (39, .aload_n 0, 1, 0, 0, 0), (40, .getfield 23, 3, 1, 2, 1), (43, .iload_n 1, 1, 0, 0, 0), (44, .aaload, 1, 0, 0, 0), (45, .iconst 0, 1, 0, 0, 0), (46, .iconst 0, 1, 0, 0, 0), (47, .iastore, 1, 0, 0, 0)],
  [(48, .iconst 0, 1, 0, 0, 0), (49, .istore_n 3, 1, 0, 0, 0), (50, .iload_n 1, 1, 0, 0, 0), (51, .bipush 6, 2, 6, 0, 0), (53, .invokestatic 69, 3, 0, 0, 2), (56, .iconst 1, 1, 1, 0, 0), (57, .isub, 1, 0, 0, 0), (58, .istore 4, 2, 0, 0, 0), (60, .iload 4, 2, 0, 0, 0), (62, .ifCond .lt 78, 3, 0, 0, 0)],
  [(65, .iload_n 3, 1, 0, 0, 0), (66, .aload_n 0, 1, 0, 0, 0), (67, .getfield 11, 3, 1, 0, 1), (70, .iload 4, 2, 0, 0, 0), (72, .aaload, 1, 0, 0, 0), (73, .invokevirtual 112, 3, 83, 0, 1), (76, .iadd, 1, 0, 0, 0), (77, .iload_n 2, 1, 0, 0, 0), (78, .sipush 5994, 3, 5994, 0, 0)],
  [(81, .invokestatic 69, 3, 0, 0, 2), (84, .invokestatic 69, 3, 0, 0, 2), (87, .istore_n 3, 1, 0, 0, 0), (88, .iconst 0, 1, 0, 0, 0), (89, .istore 5, 2, 0, 0, 0), (91, .iload 5, 2, 0, 0, 0), (93, .iload_n 3, 1, 0, 0, 0), (94, .if_icmp .gt 40, 3, 0, 0, 0)],
  [(97, .aload_n 0, 1, 0, 0, 0), (98, .getfield 23, 3, 1, 2, 1), (101, .iload 4, 2, 0, 0, 0), (103, .aaload, 1, 0, 0, 0), (104, .iload 5, 2, 0, 0, 0), (106, .aload_n 0, 1, 0, 0, 0), (107, .getfield 11, 3, 1, 0, 1), (110, .iload 4, 2, 0, 0, 0)],
  [(112, .aaload, 1, 0, 0, 0), (113, .aload_n 0, 1, 0, 0, 0), (114, .getfield 23, 3, 1, 2, 1), (117, .iload 4, 2, 0, 0, 0), (119, .iconst 1, 1, 1, 0, 0), (120, .iadd, 1, 0, 0, 0), (121, .aaload, 1, 0, 0, 0), (122, .iload 5, 2, 0, 0, 0), (124, .invokestatic 116, 3, 85, 3, 0), (127, .iastore, 1, 0, 0, 0)],
  [(128, .iinc 5 1, 3, 1, 0, 0), (131, .goto (-40), 3, 0, 0, 0), (134, .iinc 4 (-1), 3, 1, 1, 0), (137, .goto (-77), 3, 0, 0, 0), (140, .return_, 1, 0, 0, 0)]]
/-- WornSums$Findings.lowestOfLeast(LWornSums$Agreeing;[I[II)I -/
def pc_87 : List (List (Nat × smI)) := [[(0, .iload_n 3, 1, 0, 0, 0), (1, .ifCond .lt 9, 3, 0, 0, 0), (4, .iload_n 3, 1, 0, 0, 0), (5, .aload_n 1, 1, 0, 0, 0), (6, .arraylength, 1, 0, 0, 0), (7, .if_icmp .lt 5, 3, 0, 0, 0), (10, .iconst 0, 1, 0, 0, 0), (11, .ireturn, 1, 0, 0, 0), (12, .iconst 0, 1, 0, 0, 0), (13, .istore 4, 2, 0, 0, 0), (15, .iload 4, 2, 0, 0, 0)],
  [(17, .aload_n 0, 1, 0, 0, 0), (18, .getfield 64, 3, 0, 2, 0), (21, .if_icmp .ge 40, 3, 0, 0, 0), (24, .aload_n 0, 1, 0, 0, 0), (25, .iload 4, 2, 0, 0, 0), (27, .aload_n 2, 1, 0, 0, 0), (28, .iload_n 3, 1, 0, 0, 0), (29, .invokestatic 120, 3, 84, 4, 0)],
  [(32, .istore 5, 2, 0, 0, 0), (34, .iload 5, 2, 0, 0, 0), (36, .iconst (-1), 1, 1, 1, 0), (37, .if_icmp .eq 18, 3, 0, 0, 0), (40, .iload 5, 2, 0, 0, 0), (42, .aload_n 1, 1, 0, 0, 0), (43, .iload_n 3, 1, 0, 0, 0), (44, .iaload, 1, 0, 0, 0), (45, .if_icmp .ne 10, 3, 0, 0, 0)],
  [(48, .aload_n 0, 1, 0, 0, 0), (49, .iload 4, 2, 0, 0, 0), (51, .invokevirtual 93, 3, 77, 1, 1), (54, .ireturn, 1, 0, 0, 0), (55, .iinc 4 1, 3, 1, 0, 0), (58, .goto (-43), 3, 0, 0, 0), (61, .iconst 0, 1, 0, 0, 0), (62, .ireturn, 1, 0, 0, 0)]]
/-- WornSums$Findings.findLeastOfTotal(II)V -/
def pc_88 : List (List (Nat × smI)) := [[(0, .iload_n 2, 1, 0, 0, 0), (1, .ifCond .lt 10, 3, 0, 0, 0), (4, .iload_n 2, 1, 0, 0, 0), (5, .sipush 5994, 3, 5994, 0, 0), (8, .if_icmp .le 4, 3, 0, 0, 0), (11, .return_, 1, 0, 0, 0), (12, .aload_n 0, 1, 0, 0, 0), (13, .iload_n 1, 1, 0, 0, 0), (14, .iload_n 2, 1, 0, 0, 0), (15, .invokevirtual 99, 3, 86, 2, 2)],
  [(18, .aload_n 0, 1, 0, 0, 0), (19, .getfield 23, 3, 1, 2, 1), (22, .iconst 0, 1, 0, 0, 0), (23, .aaload, 1, 0, 0, 0), (24, .iload_n 2, 1, 0, 0, 0), (25, .iaload, 1, 0, 0, 0), (26, .iconst (-1), 1, 1, 1, 0), (27, .if_icmp .ne 4, 3, 0, 0, 0), (30, .return_, 1, 0, 0, 0), (31, .aload_n 0, 1, 0, 0, 0)],
  [(32, .aload_n 0, 1, 0, 0, 0), (33, .getfield 23, 3, 1, 2, 1), (36, .iconst 0, 1, 0, 0, 0), (37, .aaload, 1, 0, 0, 0), (38, .iload_n 2, 1, 0, 0, 0), (39, .iaload, 1, 0, 0, 0), (40, .putfield 30, 3, 1, 4, 0), (43, .iload_n 2, 1, 0, 0, 0), (44, .istore_n 3, 1, 0, 0, 0), (45, .iconst 0, 1, 0, 0, 0), (46, .istore 4, 2, 0, 0, 0)],
  [(48, .iload 4, 2, 0, 0, 0), (50, .iload_n 1, 1, 0, 0, 0), (51, .if_icmp .ge 60, 3, 0, 0, 0), (54, .iload 4, 2, 0, 0, 0), (56, .bipush 6, 2, 6, 0, 0), (58, .if_icmp .ge 53, 3, 0, 0, 0), (61, .aload_n 0, 1, 0, 0, 0), (62, .getfield 26, 3, 1, 3, 1)],
  [(65, .iload 4, 2, 0, 0, 0), (67, .aload_n 0, 1, 0, 0, 0), (68, .getfield 11, 3, 1, 0, 1), (71, .iload 4, 2, 0, 0, 0), (73, .aaload, 1, 0, 0, 0), (74, .aload_n 0, 1, 0, 0, 0), (75, .getfield 23, 3, 1, 2, 1), (78, .iload 4, 2, 0, 0, 0)],
  [(80, .aaload, 1, 0, 0, 0), (81, .aload_n 0, 1, 0, 0, 0), (82, .getfield 23, 3, 1, 2, 1), (85, .iload 4, 2, 0, 0, 0), (87, .iconst 1, 1, 1, 0, 0), (88, .iadd, 1, 0, 0, 0), (89, .aaload, 1, 0, 0, 0), (90, .iload_n 3, 1, 0, 0, 0), (91, .invokestatic 102, 3, 87, 4, 0), (94, .iastore, 1, 0, 0, 0), (95, .iload_n 3, 1, 0, 0, 0)],
  [(96, .aload_n 0, 1, 0, 0, 0), (97, .getfield 26, 3, 1, 3, 1), (100, .iload 4, 2, 0, 0, 0), (102, .iaload, 1, 0, 0, 0), (103, .isub, 1, 0, 0, 0), (104, .istore_n 3, 1, 0, 0, 0), (105, .iinc 4 1, 3, 1, 0, 0), (108, .goto (-60), 3, 0, 0, 0), (111, .return_, 1, 0, 0, 0)]]
/-- WornSums$Findings.refreshLeast(LWornSums$Sheet;LWornSums$NumberWords;)V -/
def pc_89 : List (List (Nat × smI)) := [[(0, .aload_n 0, 1, 0, 0, 0), (1, .getfield 34, 3, 1, 5, 0), (4, .ifCond .eq 4, 3, 0, 0, 0), (7, .return_, 1, 0, 0, 0), (8, .aload_n 0, 1, 0, 0, 0), (9, .aload_n 1, 1, 0, 0, 0), (10, .aload_n 2, 1, 0, 0, 0), (11, .invokevirtual 65, 3, 68, 2, 2), (14, .aload_n 1, 1, 0, 0, 0), (15, .getfield 45, 3, 5, 2, 0)],
  [(18, .bipush 6, 2, 6, 0, 0), (20, .invokestatic 69, 3, 0, 0, 2), (23, .istore_n 3, 1, 0, 0, 0), (24, .aload_n 0, 1, 0, 0, 0), (25, .bipush (-9), 2, 9, 1, 0), (27, .putfield 30, 3, 1, 4, 0), (30, .aload_n 0, 1, 0, 0, 0), (31, .iload_n 3, 1, 0, 0, 0)],
  [(32, .invokevirtual 75, 3, 80, 1, 2), (35, .ifCond .ne 29, 3, 0, 0, 0), (38, .aload_n 1, 1, 0, 0, 0), (39, .getfield 79, 3, 5, 4, 0), (42, .bipush (-9), 2, 9, 1, 0), (44, .if_icmp .ne 11, 3, 0, 0, 0), (47, .aload_n 0, 1, 0, 0, 0)],
  [(48, .iload_n 3, 1, 0, 0, 0), (49, .invokevirtual 82, 3, 81, 1, 2), (52, .goto 12, 3, 0, 0, 0), (55, .aload_n 0, 1, 0, 0, 0), (56, .iload_n 3, 1, 0, 0, 0), (57, .aload_n 1, 1, 0, 0, 0), (58, .getfield 79, 3, 5, 4, 0), (61, .invokevirtual 86, 3, 88, 2, 2)],
  [(64, .aload_n 0, 1, 0, 0, 0), (65, .iconst 1, 1, 1, 0, 0), (66, .putfield 34, 3, 1, 5, 2), (69, .return_, 1, 0, 0, 0)]]
/-- WornSums$Findings.leastNumber(I)I -/
def pc_90 : List (List (Nat × smI)) := [[(0, .aload_n 0, 1, 0, 0, 0), (1, .getfield 30, 3, 1, 4, 0), (4, .bipush (-9), 2, 9, 1, 0), (6, .if_icmp .eq 17, 3, 0, 0, 0), (9, .iload_n 1, 1, 0, 0, 0), (10, .ifCond .lt 13, 3, 0, 0, 0), (13, .iload_n 1, 1, 0, 0, 0), (14, .bipush 6, 2, 6, 0, 0)],
  [(16, .if_icmp .ge 7, 3, 0, 0, 0), (19, .iconst 1, 1, 1, 0, 0), (20, .goto 4, 3, 0, 0, 0), (23, .iconst 0, 1, 0, 0, 0), (24, .istore_n 2, 1, 0, 0, 0), (25, .iload_n 2, 1, 0, 0, 0), (26, .ifCond .eq 12, 3, 0, 0, 0), (29, .aload_n 0, 1, 0, 0, 0), (30, .getfield 26, 3, 1, 3, 1)],
  [(33, .iload_n 1, 1, 0, 0, 0), (34, .iaload, 1, 0, 0, 0), (35, .goto 5, 3, 0, 0, 0), (38, .bipush (-9), 2, 9, 1, 0), (40, .ireturn, 1, 0, 0, 0)]]
/-- WornSums.least(I)I -/
def pc_91 : List (List (Nat × smI)) := [[(0, .iload_n 1, 1, 0, 0, 0), (1, .iconst (-1), 1, 1, 1, 0), (2, .if_icmp .eq 16, 3, 0, 0, 0), (5, .aload_n 0, 1, 0, 0, 0), (6, .getfield 19, 3, 7, 1, 1), (9, .iload_n 1, 1, 0, 0, 0), (10, .invokevirtual 78, 3, 48, 1, 6), (13, .ifCond .ne 5, 3, 0, 0, 0)],
  [(16, .iconst (-1), 1, 1, 1, 0), (17, .ireturn, 1, 0, 0, 0), (18, .aload_n 0, 1, 0, 0, 0), (19, .getfield 52, 3, 7, 6, 1), (22, .aload_n 0, 1, 0, 0, 0), (23, .getfield 19, 3, 7, 1, 1), (26, .aload_n 0, 1, 0, 0, 0), (27, .getfield 45, 3, 7, 5, 1), (30, .invokevirtual 167, 3, 89, 2, 2)],
  [(33, .iload_n 1, 1, 0, 0, 0), (34, .iconst (-1), 1, 1, 1, 0), (35, .if_icmp .ne 13, 3, 0, 0, 0), (38, .aload_n 0, 1, 0, 0, 0), (39, .getfield 52, 3, 7, 6, 1), (42, .getfield 171, 3, 1, 4, 0), (45, .goto 11, 3, 0, 0, 0)],
  [(48, .aload_n 0, 1, 0, 0, 0), (49, .getfield 52, 3, 7, 6, 1), (52, .iload_n 1, 1, 0, 0, 0), (53, .invokevirtual 174, 3, 90, 1, 2), (56, .ireturn, 1, 0, 0, 0)]]
/-- WornSums$History.slotOf(I)I -/
def pc_92 : List (List (Nat × smI)) := [[(0, .iload_n 0, 1, 0, 0, 0), (1, .bipush 8, 2, 8, 0, 0), (3, .invokestatic 42, 3, 157, 2, 0), (6, .ireturn, 1, 0, 0, 0)]]
/-- WornSums$Findings.isReached(I)Z -/
def pc_93 : List (List (Nat × smI)) := [[(0, .iload_n 1, 1, 0, 0, 0), (1, .ifCond .lt 23, 3, 0, 0, 0), (4, .iload_n 1, 1, 0, 0, 0), (5, .sipush 5994, 3, 5994, 0, 0), (8, .if_icmp .gt 16, 3, 0, 0, 0), (11, .aload_n 0, 1, 0, 0, 0), (12, .getfield 37, 3, 1, 6, 1), (15, .iload_n 1, 1, 0, 0, 0)],
  [(16, .baload, 1, 0, 0, 0), (17, .ifCond .eq 7, 3, 0, 0, 0), (20, .iconst 1, 1, 1, 0, 0), (21, .goto 4, 3, 0, 0, 0), (24, .iconst 0, 1, 0, 0, 0), (25, .ireturn, 1, 0, 0, 1)]]
/-- WornSums$Findings.isReachedBy(LWornSums$Agreeing;I)Z -/
def pc_94 : List (List (Nat × smI)) := [[(0, .iconst 0, 1, 0, 0, 0), (1, .istore_n 3, 1, 0, 0, 0), (2, .iload_n 3, 1, 0, 0, 0), (3, .aload_n 1, 1, 0, 0, 0), (4, .getfield 64, 3, 0, 2, 0), (7, .if_icmp .ge 25, 3, 0, 0, 0), (10, .aload_n 0, 1, 0, 0, 0), (11, .iload_n 2, 1, 0, 0, 0), (12, .aload_n 1, 1, 0, 0, 0), (13, .iload_n 3, 1, 0, 0, 0), (14, .invokevirtual 93, 3, 77, 1, 1)],
  [(17, .isub, 1, 0, 0, 0), (18, .invokevirtual 132, 3, 93, 1, 2), (21, .ifCond .eq 5, 3, 0, 0, 0), (24, .iconst 1, 1, 1, 0, 0), (25, .ireturn, 1, 0, 0, 1), (26, .iinc 3 1, 3, 1, 0, 0), (29, .goto (-27), 3, 0, 0, 0)],
  [(32, .iconst 0, 1, 0, 0, 0), (33, .ireturn, 1, 0, 0, 1)]]
/-- WornSums$Findings.reachOn(LWornSums$Agreeing;I)V -/
def pc_95 : List (List (Nat × smI)) := [[(0, .iload_n 2, 1, 0, 0, 0), (1, .sipush 5994, 3, 5994, 0, 0), (4, .invokestatic 69, 3, 0, 0, 2), (7, .istore_n 3, 1, 0, 0, 0), (8, .iload_n 3, 1, 0, 0, 0), (9, .ifCond .lt 21, 3, 0, 0, 0), (12, .aload_n 0, 1, 0, 0, 0), (13, .getfield 37, 3, 1, 6, 1)],
  [(16, .iload_n 3, 1, 0, 0, 0), (17, .aload_n 0, 1, 0, 0, 0), (18, .aload_n 1, 1, 0, 0, 0), (19, .iload_n 3, 1, 0, 0, 0), (20, .invokevirtual 140, 3, 94, 2, 2), (23, .bastore, 1, 0, 0, 0), (24, .iinc 3 (-1), 3, 1, 1, 0), (27, .goto (-19), 3, 0, 0, 0), (30, .return_, 1, 0, 0, 0)]]
/-- WornSums$Findings.reachWithout(III)V -/
def pc_96 : List (List (Nat × smI)) := [[(0, .iconst 0, 1, 0, 0, 0), (1, .istore 4, 2, 0, 0, 0), (3, .iload 4, 2, 0, 0, 0), (5, .aload_n 0, 1, 0, 0, 0), (6, .getfield 37, 3, 1, 6, 1), (9, .arraylength, 1, 0, 0, 0), (10, .if_icmp .ge 26, 3, 0, 0, 0), (13, .aload_n 0, 1, 0, 0, 0), (14, .getfield 37, 3, 1, 6, 1)],
  [(17, .iload 4, 2, 0, 0, 0), (19, .iload 4, 2, 0, 0, 0), (21, .ifCond .ne 7, 3, 0, 0, 0), (24, .iconst 1, 1, 1, 0, 0), (25, .goto 4, 3, 0, 0, 0), (28, .iconst 0, 1, 0, 0, 0), (29, .bastore, 1, 0, 0, 0), (30, .iinc 4 1, 3, 1, 0, 0)],
  [(33, .goto (-30), 3, 0, 0, 0), (36, .iconst 0, 1, 0, 0, 0), (37, .istore 4, 2, 0, 0, 0), (39, .iconst 0, 1, 0, 0, 0), (40, .istore 5, 2, 0, 0, 0), (42, .iload 5, 2, 0, 0, 0), (44, .iload_n 2, 1, 0, 0, 0), (45, .if_icmp .ge 60, 3, 0, 0, 0)],
  [(48, .iload 5, 2, 0, 0, 0), (50, .bipush 6, 2, 6, 0, 0), (52, .if_icmp .ge 53, 3, 0, 0, 0), (55, .iload 5, 2, 0, 0, 0), (57, .iload_n 1, 1, 0, 0, 0), (58, .if_icmp .eq 41, 3, 0, 0, 0), (61, .iload 4, 2, 0, 0, 0), (63, .aload_n 0, 1, 0, 0, 0)],
  [(64, .getfield 11, 3, 1, 0, 1), (67, .iload 5, 2, 0, 0, 0), (69, .aaload, 1, 0, 0, 0), (70, .invokevirtual 112, 3, 83, 0, 1), (73, .iadd, 1, 0, 0, 0), (74, .iload_n 3, 1, 0, 0, 0), (75, .sipush 5994, 3, 5994, 0, 0), (78, .invokestatic 69, 3, 0, 0, 2)],
  [(81, .invokestatic 69, 3, 0, 0, 2), (84, .istore 4, 2, 0, 0, 0), (86, .aload_n 0, 1, 0, 0, 0), (87, .aload_n 0, 1, 0, 0, 0), (88, .getfield 11, 3, 1, 0, 1), (91, .iload 5, 2, 0, 0, 0), (93, .aaload, 1, 0, 0, 0), (94, .iload 4, 2, 0, 0, 0)],
  [(96, .invokevirtual 136, 3, 95, 2, 2), (99, .iinc 5 1, 3, 1, 0, 0), (102, .goto (-60), 3, 0, 0, 0), (105, .return_, 1, 0, 0, 0)]]
/-- WornSums$Findings.sureNumber(III)I -/
def pc_97 : List (List (Nat × smI)) := [[(0, .aload_n 0, 1, 0, 0, 0), (1, .iload_n 2, 1, 0, 0, 0), (2, .invokevirtual 75, 3, 80, 1, 2), (5, .ifCond .le 6, 3, 0, 0, 0), (8, .bipush (-9), 2, 9, 1, 0), (10, .ireturn, 1, 0, 0, 0), (11, .aload_n 0, 1, 0, 0, 0), (12, .iload_n 1, 1, 0, 0, 0), (13, .invokevirtual 124, 3, 69, 1, 2)],
  [(16, .astore 4, 2, 0, 0, 0), (18, .iload_n 3, 1, 0, 0, 0), (19, .bipush (-9), 2, 9, 1, 0), (21, .if_icmp .ne 24, 3, 0, 0, 0), (24, .aload 4, 2, 0, 0, 0), (26, .getfield 64, 3, 0, 2, 0), (29, .iconst 1, 1, 1, 0, 0), (30, .if_icmp .ne 12, 3, 0, 0, 0)],
  [(33, .aload 4, 2, 0, 0, 0), (35, .iconst 0, 1, 0, 0, 0), (36, .invokevirtual 93, 3, 77, 1, 1), (39, .goto 5, 3, 0, 0, 0), (42, .bipush (-9), 2, 9, 1, 0), (44, .ireturn, 1, 0, 0, 0), (45, .aload_n 0, 1, 0, 0, 0), (46, .iload_n 1, 1, 0, 0, 0), (47, .iload_n 2, 1, 0, 0, 0)],
  [(48, .iload_n 3, 1, 0, 0, 0), (49, .invokevirtual 128, 3, 96, 3, 2), (52, .bipush (-9), 2, 9, 1, 0), (54, .istore 5, 2, 0, 0, 0), (56, .iconst 0, 1, 0, 0, 0), (57, .istore 6, 2, 0, 0, 0), (59, .iload 6, 2, 0, 0, 0), (61, .aload 4, 2, 0, 0, 0), (63, .getfield 64, 3, 0, 2, 0)],
  [(66, .if_icmp .ge 44, 3, 0, 0, 0), (69, .aload_n 0, 1, 0, 0, 0), (70, .iload_n 3, 1, 0, 0, 0), (71, .aload 4, 2, 0, 0, 0), (73, .iload 6, 2, 0, 0, 0), (75, .invokevirtual 93, 3, 77, 1, 1), (78, .isub, 1, 0, 0, 0), (79, .invokevirtual 132, 3, 93, 1, 2)],
  [(82, .ifCond .eq 22, 3, 0, 0, 0), (85, .iload 5, 2, 0, 0, 0), (87, .bipush (-9), 2, 9, 1, 0), (89, .if_icmp .eq 6, 3, 0, 0, 0), (92, .bipush (-9), 2, 9, 1, 0), (94, .ireturn, 1, 0, 0, 0), (95, .aload 4, 2, 0, 0, 0)],
  [(97, .iload 6, 2, 0, 0, 0), (99, .invokevirtual 93, 3, 77, 1, 1), (102, .istore 5, 2, 0, 0, 0), (104, .iinc 6 1, 3, 1, 0, 0), (107, .goto (-48), 3, 0, 0, 0), (110, .iload 5, 2, 0, 0, 0)],
  [(112, .ireturn, 1, 0, 0, 0)]]
/-- WornSums.sure(I)I -/
def pc_98 : List (List (Nat × smI)) := [[(0, .aload_n 0, 1, 0, 0, 0), (1, .getfield 19, 3, 7, 1, 1), (4, .iload_n 1, 1, 0, 0, 0), (5, .invokevirtual 78, 3, 48, 1, 6), (8, .ifCond .ne 5, 3, 0, 0, 0), (11, .iconst (-1), 1, 1, 1, 0), (12, .ireturn, 1, 0, 0, 0), (13, .aload_n 0, 1, 0, 0, 0), (14, .getfield 52, 3, 7, 6, 1)],
  [(17, .aload_n 0, 1, 0, 0, 0), (18, .getfield 19, 3, 7, 1, 1), (21, .aload_n 0, 1, 0, 0, 0), (22, .getfield 45, 3, 7, 5, 1), (25, .invokevirtual 177, 3, 68, 2, 2), (28, .aload_n 0, 1, 0, 0, 0), (29, .getfield 52, 3, 7, 6, 1)],
  [(32, .iload_n 1, 1, 0, 0, 0), (33, .aload_n 0, 1, 0, 0, 0), (34, .getfield 19, 3, 7, 1, 1), (37, .getfield 64, 3, 5, 2, 0), (40, .aload_n 0, 1, 0, 0, 0), (41, .getfield 19, 3, 7, 1, 1), (44, .getfield 114, 3, 5, 4, 0), (47, .invokevirtual 180, 3, 97, 3, 2)],
  [(50, .ireturn, 1, 0, 0, 0)]]
/-- WornSums$Findings.mostOfOneLetter(LWornSums$Agreeing;ILWornSums$NumberWords;)I -/
def pc_99 : List (List (Nat × smI)) := [[(0, .aload_n 0, 1, 0, 0, 0), (1, .getfield 41, 3, 1, 7, 1), (4, .iconst 0, 1, 0, 0, 0), (5, .invokestatic 106, 3, 82, 2, 0), (8, .iconst 0, 1, 0, 0, 0), (9, .istore 4, 2, 0, 0, 0), (11, .iconst 0, 1, 0, 0, 0), (12, .istore 5, 2, 0, 0, 0), (14, .iload 5, 2, 0, 0, 0)],
  [(16, .aload_n 1, 1, 0, 0, 0), (17, .getfield 64, 3, 0, 2, 0), (20, .if_icmp .ge 62, 3, 0, 0, 0), (23, .aload_n 3, 1, 0, 0, 0), (24, .aload_n 1, 1, 0, 0, 0), (25, .iload 5, 2, 0, 0, 0), (27, .invokevirtual 93, 3, 77, 1, 1), (30, .iload_n 2, 1, 0, 0, 0), (31, .invokevirtual 157, 3, 17, 2, 4)],
  [(34, .bipush 97, 2, 97, 0, 0), (36, .isub, 1, 0, 0, 0), (37, .istore 6, 2, 0, 0, 0), (39, .iload 6, 2, 0, 0, 0), (41, .ifCond .lt 35, 3, 0, 0, 0), (44, .iload 6, 2, 0, 0, 0), (46, .bipush 26, 2, 26, 0, 0)],
  [(48, .if_icmp .ge 28, 3, 0, 0, 0), (51, .aload_n 0, 1, 0, 0, 0), (52, .getfield 41, 3, 1, 7, 1), (55, .iload 6, 2, 0, 0, 0), (57, .dup2, 1, 0, 0, 0), (58, .iaload, 1, 0, 0, 0), (59, .iconst 1, 1, 1, 0, 0), (60, .iadd, 1, 0, 0, 0), (61, .iastore, 1, 0, 0, 0), (62, .iload 4, 2, 0, 0, 0)],
  [(64, .aload_n 0, 1, 0, 0, 0), (65, .getfield 41, 3, 1, 7, 1), (68, .iload 6, 2, 0, 0, 0), (70, .iaload, 1, 0, 0, 0), (71, .invokestatic 161, 3, 0, 0, 1), (74, .istore 4, 2, 0, 0, 0), (76, .iinc 5 1, 3, 1, 0, 0), (79, .goto (-65), 3, 0, 0, 0)],
  [(82, .iload 4, 2, 0, 0, 0), (84, .ireturn, 1, 0, 0, 0)]]
/-- WornSums$Findings.bestPlace(LWornSums$Row;LWornSums$Agreeing;LWornSums$NumberWords;)I -/
def pc_100 : List (List (Nat × smI)) := [[(0, .bipush (-9), 2, 9, 1, 0), (2, .istore 4, 2, 0, 0, 0), (4, .iconst 0, 1, 0, 0, 0), (5, .istore 5, 2, 0, 0, 0), (7, .iconst 0, 1, 0, 0, 0), (8, .istore 6, 2, 0, 0, 0), (10, .iload 6, 2, 0, 0, 0), (12, .aload_n 1, 1, 0, 0, 0), (13, .getfield 144, 3, 4, 1, 0)],
  [(16, .if_icmp .ge 52, 3, 0, 0, 0), (19, .aload_n 1, 1, 0, 0, 0), (20, .iload 6, 2, 0, 0, 0), (22, .invokevirtual 149, 3, 37, 1, 5), (25, .bipush 63, 2, 63, 0, 0), (27, .if_icmp .ne 35, 3, 0, 0, 0), (30, .aload_n 0, 1, 0, 0, 0), (31, .aload_n 2, 1, 0, 0, 0)],
  [(32, .iload 6, 2, 0, 0, 0), (34, .aload_n 3, 1, 0, 0, 0), (35, .invokevirtual 153, 3, 99, 3, 2), (38, .istore 7, 2, 0, 0, 0), (40, .iload 4, 2, 0, 0, 0), (42, .bipush (-9), 2, 9, 1, 0), (44, .if_icmp .eq 10, 3, 0, 0, 0), (47, .iload 7, 2, 0, 0, 0)],
  [(49, .iload 5, 2, 0, 0, 0), (51, .if_icmp .ge 11, 3, 0, 0, 0), (54, .iload 6, 2, 0, 0, 0), (56, .istore 4, 2, 0, 0, 0), (58, .iload 7, 2, 0, 0, 0), (60, .istore 5, 2, 0, 0, 0), (62, .iinc 6 1, 3, 1, 0, 0)],
  [(65, .goto (-55), 3, 0, 0, 0), (68, .iload 4, 2, 0, 0, 0), (70, .ireturn, 1, 0, 0, 0)]]
/-- WornSums.look(I)I -/
def pc_101 : List (List (Nat × smI)) := [[(0, .aload_n 0, 1, 0, 0, 0), (1, .getfield 19, 3, 7, 1, 1), (4, .iload_n 1, 1, 0, 0, 0), (5, .iconst 0, 1, 0, 0, 0), (6, .invokevirtual 86, 3, 51, 2, 6), (9, .astore_n 2, 1, 0, 0, 0), (10, .aload_n 2, 1, 0, 0, 0), (11, .ifnonnull 5, 3, 0, 0, 0), (14, .iconst (-1), 1, 1, 1, 0), (15, .ireturn, 1, 0, 0, 0)],
  [(16, .aload_n 0, 1, 0, 0, 0), (17, .iload_n 1, 1, 0, 0, 0), (18, .invokevirtual 129, 3, 70, 1, 8), (21, .astore_n 3, 1, 0, 0, 0), (22, .aload_n 3, 1, 0, 0, 0), (23, .getfield 141, 3, 0, 2, 0), (26, .iconst 1, 1, 1, 0, 0), (27, .if_icmp .gt 8, 3, 0, 0, 0), (30, .bipush (-9), 2, 9, 1, 0)],
  [(32, .goto 16, 3, 0, 0, 0), (35, .aload_n 0, 1, 0, 0, 0), (36, .getfield 52, 3, 7, 6, 1), (39, .aload_n 2, 1, 0, 0, 0), (40, .aload_n 3, 1, 0, 0, 0), (41, .aload_n 0, 1, 0, 0, 0), (42, .getfield 45, 3, 7, 5, 1), (45, .invokevirtual 184, 3, 100, 3, 2)],
  [(48, .ireturn, 1, 0, 0, 0)]]
/-- WornSums.keep(I)I -/
def pc_102 : List (List (Nat × smI)) := [[(0, .iload_n 1, 1, 0, 0, 0), (1, .ifCond .lt 8, 3, 0, 0, 0), (4, .iload_n 1, 1, 0, 0, 0), (5, .iconst 2, 1, 2, 0, 0), (6, .if_icmp .lt 5, 3, 0, 0, 0), (9, .iconst (-1), 1, 1, 1, 0), (10, .ireturn, 1, 0, 0, 0), (11, .aload_n 0, 1, 0, 0, 0), (12, .getfield 34, 3, 7, 3, 1), (15, .iload_n 1, 1, 0, 0, 0)],
  [(16, .aaload, 1, 0, 0, 0), (17, .aload_n 0, 1, 0, 0, 0), (18, .getfield 19, 3, 7, 1, 1), (21, .invokevirtual 188, 3, 40, 1, 6), (24, .aload_n 0, 1, 0, 0, 0), (25, .getfield 38, 3, 7, 4, 1), (28, .iload_n 1, 1, 0, 0, 0), (29, .iconst 1, 1, 1, 0, 0), (30, .bastore, 1, 0, 0, 0), (31, .aload_n 0, 1, 0, 0, 0)],
  [(32, .getfield 19, 3, 7, 1, 1), (35, .getfield 64, 3, 5, 2, 0), (38, .ireturn, 1, 0, 0, 0)]]
/-- WornSums.back(I)I -/
def pc_103 : List (List (Nat × smI)) := [[(0, .iload_n 1, 1, 0, 0, 0), (1, .ifCond .lt 8, 3, 0, 0, 0), (4, .iload_n 1, 1, 0, 0, 0), (5, .iconst 2, 1, 2, 0, 0), (6, .if_icmp .lt 5, 3, 0, 0, 0), (9, .iconst (-1), 1, 1, 1, 0), (10, .ireturn, 1, 0, 0, 0), (11, .aload_n 0, 1, 0, 0, 0), (12, .getfield 38, 3, 7, 4, 1), (15, .iload_n 1, 1, 0, 0, 0)],
  [(16, .baload, 1, 0, 0, 0), (17, .ifCond .ne 6, 3, 0, 0, 0), (20, .bipush (-2), 2, 2, 1, 0), (22, .ireturn, 1, 0, 0, 0), (23, .aload_n 0, 1, 0, 0, 0), (24, .getfield 19, 3, 7, 1, 1), (27, .aload_n 0, 1, 0, 0, 0), (28, .getfield 34, 3, 7, 3, 1), (31, .iload_n 1, 1, 0, 0, 0)],
  [(32, .aaload, 1, 0, 0, 0), (33, .invokevirtual 188, 3, 40, 1, 6), (36, .aload_n 0, 1, 0, 0, 0), (37, .getfield 26, 3, 7, 2, 1), (40, .iconst 0, 1, 0, 0, 0), (41, .putfield 117, 3, 2, 2, 0), (44, .aload_n 0, 1, 0, 0, 0), (45, .getfield 52, 3, 7, 6, 1)],
  [(48, .invokevirtual 122, 3, 42, 0, 2), (51, .aload_n 0, 1, 0, 0, 0), (52, .getfield 19, 3, 7, 1, 1), (55, .getfield 64, 3, 5, 2, 0), (58, .ireturn, 1, 0, 0, 0)]]
/-- WornSums$Sheet.wornInAll()I -/
def pc_104 : List (List (Nat × smI)) := [[(0, .iconst 0, 1, 0, 0, 0), (1, .istore_n 1, 1, 0, 0, 0), (2, .iconst 0, 1, 0, 0, 0), (3, .istore_n 2, 1, 0, 0, 0), (4, .iload_n 2, 1, 0, 0, 0), (5, .aload_n 0, 1, 0, 0, 0), (6, .getfield 22, 3, 5, 2, 0), (9, .if_icmp .ge 17, 3, 0, 0, 0), (12, .iload_n 1, 1, 0, 0, 0), (13, .aload_n 0, 1, 0, 0, 0), (14, .iload_n 2, 1, 0, 0, 0), (15, .invokevirtual 52, 3, 55, 1, 6)],
  [(18, .iadd, 1, 0, 0, 0), (19, .istore_n 1, 1, 0, 0, 0), (20, .iinc 2 1, 3, 1, 0, 0), (23, .goto (-19), 3, 0, 0, 0), (26, .iload_n 1, 1, 0, 0, 0), (27, .ireturn, 1, 0, 0, 0)]]
/-- WornSums.count(I)I -/
def pc_105 : List (List (Nat × smI)) := [[(0, .iload_n 1, 1, 0, 0, 0), (1, .tableswitch 121 0 6 #[43, 51, 81, 89, 97, 105, 113], 43, 0, 0, 0)],
  [],
  [(44, .aload_n 0, 1, 0, 0, 0), (45, .getfield 19, 3, 7, 1, 1)],
  [(48, .getfield 64, 3, 5, 2, 0), (51, .ireturn, 1, 0, 0, 0), (52, .aload_n 0, 1, 0, 0, 0), (53, .getfield 52, 3, 7, 6, 1), (56, .aload_n 0, 1, 0, 0, 0), (57, .getfield 19, 3, 7, 1, 1), (60, .aload_n 0, 1, 0, 0, 0), (61, .getfield 45, 3, 7, 5, 1)],
  [(64, .invokevirtual 177, 3, 68, 2, 2), (67, .aload_n 0, 1, 0, 0, 0), (68, .getfield 52, 3, 7, 6, 1), (71, .aload_n 0, 1, 0, 0, 0), (72, .getfield 19, 3, 7, 1, 1), (75, .getfield 64, 3, 5, 2, 0), (78, .invokevirtual 191, 3, 80, 1, 2)],
  [(81, .ireturn, 1, 0, 0, 0), (82, .aload_n 0, 1, 0, 0, 0), (83, .getfield 19, 3, 7, 1, 1), (86, .getfield 111, 3, 5, 3, 0), (89, .ireturn, 1, 0, 0, 0), (90, .aload_n 0, 1, 0, 0, 0), (91, .getfield 19, 3, 7, 1, 1), (94, .getfield 114, 3, 5, 4, 0)],
  [(97, .ireturn, 1, 0, 0, 0), (98, .aload_n 0, 1, 0, 0, 0), (99, .getfield 19, 3, 7, 1, 1), (102, .invokevirtual 194, 3, 104, 0, 6), (105, .ireturn, 1, 0, 0, 0), (106, .aload_n 0, 1, 0, 0, 0), (107, .getfield 12, 3, 7, 0, 1), (110, .getfield 60, 3, 6, 1, 0)],
  [(113, .ireturn, 1, 0, 0, 0), (114, .aload_n 0, 1, 0, 0, 0), (115, .getfield 26, 3, 7, 2, 1), (118, .getfield 117, 3, 2, 2, 0), (121, .ireturn, 1, 0, 0, 0), (122, .iconst (-1), 1, 1, 1, 0), (123, .ireturn, 1, 0, 0, 0)]]
/-- WornSumsModel.<init>()V -/
def pc_106 : List (List (Nat × smI)) := [[(0, .aload_n 0, 1, 0, 0, 0), (1, .invokespecial 1, 3, 0, 0, 0), (4, .aload_n 0, 1, 0, 0, 0), (5, .sipush 219, 3, 219, 0, 0), (8, .newarray .int, 2, 0, 0, 0), (10, .putfield 7, 3, 8, 0, 1), (13, .aload_n 0, 1, 0, 0, 0), (14, .sipush 1752, 3, 1752, 0, 0)],
  [(17, .newarray .int, 2, 0, 0, 0), (19, .putfield 13, 3, 8, 1, 1), (22, .aload_n 0, 1, 0, 0, 0), (23, .sipush 438, 3, 438, 0, 0), (26, .newarray .int, 2, 0, 0, 0), (28, .putfield 16, 3, 8, 3, 1), (31, .aload_n 0, 1, 0, 0, 0)],
  [(32, .iconst 2, 1, 2, 0, 0), (33, .newarray .boolean, 2, 0, 0, 0), (35, .putfield 19, 3, 8, 4, 1), (38, .aload_n 0, 1, 0, 0, 0), (39, .bipush 40, 2, 40, 0, 0), (41, .newarray .int, 2, 0, 0, 0), (43, .putfield 23, 3, 8, 5, 1), (46, .aload_n 0, 1, 0, 0, 0), (47, .bipush 40, 2, 40, 0, 0)],
  [(49, .newarray .int, 2, 0, 0, 0), (51, .putfield 26, 3, 8, 7, 1), (54, .aload_n 0, 1, 0, 0, 0), (55, .sipush 6000, 3, 6000, 0, 0), (58, .newarray .int, 2, 0, 0, 0), (60, .putfield 29, 3, 8, 9, 1), (63, .aload_n 0, 1, 0, 0, 0)],
  [(64, .sipush 6000, 3, 6000, 0, 0), (67, .newarray .int, 2, 0, 0, 0), (69, .putfield 32, 3, 8, 10, 1), (72, .aload_n 0, 1, 0, 0, 0), (73, .bipush 6, 2, 6, 0, 0), (75, .newarray .int, 2, 0, 0, 0), (77, .putfield 35, 3, 8, 11, 1)],
  [(80, .aload_n 0, 1, 0, 0, 0), (81, .sipush 17985, 3, 17985, 0, 0), (84, .newarray .int, 2, 0, 0, 0), (86, .putfield 38, 3, 8, 12, 1), (89, .aload_n 0, 1, 0, 0, 0), (90, .sipush 17985, 3, 17985, 0, 0), (93, .newarray .int, 2, 0, 0, 0), (95, .putfield 41, 3, 8, 13, 1)],
  [(98, .aload_n 0, 1, 0, 0, 0), (99, .bipush 6, 2, 6, 0, 0), (101, .newarray .int, 2, 0, 0, 0), (103, .putfield 44, 3, 8, 14, 1), (106, .aload_n 0, 1, 0, 0, 0), (107, .sipush 5995, 3, 5995, 0, 0), (110, .newarray .boolean, 2, 0, 0, 0)],
  [(112, .putfield 47, 3, 8, 15, 1), (115, .aload_n 0, 1, 0, 0, 0), (116, .sipush 5995, 3, 5995, 0, 0), (119, .newarray .boolean, 2, 0, 0, 0), (121, .putfield 50, 3, 8, 16, 1), (124, .aload_n 0, 1, 0, 0, 0), (125, .bipush 26, 2, 26, 0, 0), (127, .newarray .int, 2, 0, 0, 0)],
  [(129, .putfield 53, 3, 8, 17, 1), (132, .aload_n 0, 1, 0, 0, 0), (133, .getfield 7, 3, 8, 0, 1), (136, .iconst 2, 1, 2, 0, 0), (137, .bipush (-9), 2, 9, 1, 0), (139, .iastore, 1, 0, 0, 0), (140, .return_, 1, 0, 0, 0)]]
/-- WornSumsModel.in(III)Z -/
def pc_107 : List (List (Nat × smI)) := [[(0, .iload_n 0, 1, 0, 0, 0), (1, .iload_n 1, 1, 0, 0, 0), (2, .if_icmp .lt 12, 3, 0, 0, 0), (5, .iload_n 0, 1, 0, 0, 0), (6, .iload_n 2, 1, 0, 0, 0), (7, .if_icmp .gt 7, 3, 0, 0, 0), (10, .iconst 1, 1, 1, 0, 0), (11, .goto 4, 3, 0, 0, 0), (14, .iconst 0, 1, 0, 0, 0), (15, .ireturn, 1, 0, 0, 1)]]
/-- WornSumsModel.type(I)I -/
def pc_108 : List (List (Nat × smI)) := [[(0, .iload_n 1, 1, 0, 0, 0), (1, .iconst 0, 1, 0, 0, 0), (2, .sipush 255, 3, 255, 0, 0), (5, .invokestatic 137, 3, 107, 3, 0), (8, .ifCond .ne 5, 3, 0, 0, 0), (11, .iconst (-1), 1, 1, 1, 0), (12, .ireturn, 1, 0, 0, 0), (13, .aload_n 0, 1, 0, 0, 0), (14, .getfield 141, 3, 8, 6, 0)],
  [(17, .bipush 40, 2, 40, 0, 0), (19, .if_icmp .ne 6, 3, 0, 0, 0), (22, .bipush (-3), 2, 3, 1, 0), (24, .ireturn, 1, 0, 0, 0), (25, .aload_n 0, 1, 0, 0, 0), (26, .getfield 23, 3, 8, 5, 1), (29, .aload_n 0, 1, 0, 0, 0), (30, .getfield 141, 3, 8, 6, 0)],
  [(33, .iload_n 1, 1, 0, 0, 0), (34, .iastore, 1, 0, 0, 0), (35, .aload_n 0, 1, 0, 0, 0), (36, .dup, 1, 0, 0, 0), (37, .getfield 141, 3, 8, 6, 0), (40, .iconst 1, 1, 1, 0, 0), (41, .iadd, 1, 0, 0, 0), (42, .putfield 141, 3, 8, 6, 0), (45, .aload_n 0, 1, 0, 0, 0), (46, .getfield 141, 3, 8, 6, 0)],
  [(49, .ireturn, 1, 0, 0, 0)]]
/-- WornSumsModel.clear()I -/
def pc_109 : List (List (Nat × smI)) := [[(0, .aload_n 0, 1, 0, 0, 0), (1, .getfield 141, 3, 8, 6, 0), (4, .istore_n 1, 1, 0, 0, 0), (5, .aload_n 0, 1, 0, 0, 0), (6, .iconst 0, 1, 0, 0, 0), (7, .putfield 141, 3, 8, 6, 0), (10, .iload_n 1, 1, 0, 0, 0), (11, .ireturn, 1, 0, 0, 0)]]
/-- WornSumsModel.isLetter(I)Z -/
def pc_110 : List (List (Nat × smI)) := [[(0, .iload_n 0, 1, 0, 0, 0), (1, .bipush 97, 2, 97, 0, 0), (3, .bipush 122, 2, 122, 0, 0), (5, .invokestatic 137, 3, 107, 3, 0), (8, .ifCond .ne 9, 3, 0, 0, 0), (11, .iload_n 0, 1, 0, 0, 0), (12, .bipush 63, 2, 63, 0, 0), (14, .if_icmp .ne 7, 3, 0, 0, 0)],
  [(17, .iconst 1, 1, 1, 0, 0), (18, .goto 4, 3, 0, 0, 0), (21, .iconst 0, 1, 0, 0, 0), (22, .ireturn, 1, 0, 0, 1)]]
/-- WornSumsModel.isFigure(I)Z -/
def pc_111 : List (List (Nat × smI)) := [[(0, .iload_n 0, 1, 0, 0, 0), (1, .bipush 48, 2, 48, 0, 0), (3, .bipush 57, 2, 57, 0, 0), (5, .invokestatic 137, 3, 107, 3, 0), (8, .ifCond .ne 9, 3, 0, 0, 0), (11, .iload_n 0, 1, 0, 0, 0), (12, .bipush 63, 2, 63, 0, 0), (14, .if_icmp .ne 7, 3, 0, 0, 0)],
  [(17, .iconst 1, 1, 1, 0, 0), (18, .goto 4, 3, 0, 0, 0), (21, .iconst 0, 1, 0, 0, 0), (22, .ireturn, 1, 0, 0, 1)]]
/-- WornSumsModel.readText()I -/
def pc_112 : List (List (Nat × smI)) := [[(0, .iconst 0, 1, 0, 0, 0), (1, .istore_n 1, 1, 0, 0, 0), (2, .iload_n 1, 1, 0, 0, 0), (3, .aload_n 0, 1, 0, 0, 0), (4, .getfield 141, 3, 8, 6, 0), (7, .if_icmp .ge 101, 3, 0, 0, 0), (10, .aload_n 0, 1, 0, 0, 0), (11, .getfield 23, 3, 8, 5, 1), (14, .iload_n 1, 1, 0, 0, 0), (15, .iaload, 1, 0, 0, 0)],
  [(16, .invokestatic 144, 3, 110, 1, 0), (19, .ifCond .ne 14, 3, 0, 0, 0), (22, .aload_n 0, 1, 0, 0, 0), (23, .getfield 23, 3, 8, 5, 1), (26, .iload_n 1, 1, 0, 0, 0), (27, .iaload, 1, 0, 0, 0), (28, .bipush 32, 2, 32, 0, 0), (30, .if_icmp .ne 78, 3, 0, 0, 0)],
  [(33, .iload_n 1, 1, 0, 0, 0), (34, .ifCond .le 20, 3, 0, 0, 0), (37, .aload_n 0, 1, 0, 0, 0), (38, .getfield 23, 3, 8, 5, 1), (41, .iload_n 1, 1, 0, 0, 0), (42, .iconst 1, 1, 1, 0, 0), (43, .isub, 1, 0, 0, 0), (44, .iaload, 1, 0, 0, 0), (45, .bipush 32, 2, 32, 0, 0), (47, .if_icmp .eq 7, 3, 0, 0, 0)],
  [(50, .iconst 1, 1, 1, 0, 0), (51, .goto 4, 3, 0, 0, 0), (54, .iconst 0, 1, 0, 0, 0), (55, .istore_n 2, 1, 0, 0, 0), (56, .iload_n 1, 1, 0, 0, 0), (57, .bipush 31, 2, 31, 0, 0), (59, .if_icmp .eq 41, 3, 0, 0, 0), (62, .aload_n 0, 1, 0, 0, 0), (63, .getfield 23, 3, 8, 5, 1)],
  [(66, .iload_n 1, 1, 0, 0, 0), (67, .iaload, 1, 0, 0, 0), (68, .bipush 32, 2, 32, 0, 0), (70, .if_icmp .ne 32, 3, 0, 0, 0), (73, .iload_n 2, 1, 0, 0, 0), (74, .ifCond .eq 26, 3, 0, 0, 0), (77, .iload_n 1, 1, 0, 0, 0), (78, .iconst 1, 1, 1, 0, 0), (79, .iadd, 1, 0, 0, 0)],
  [(80, .aload_n 0, 1, 0, 0, 0), (81, .getfield 141, 3, 8, 6, 0), (84, .if_icmp .ge 18, 3, 0, 0, 0), (87, .aload_n 0, 1, 0, 0, 0), (88, .getfield 23, 3, 8, 5, 1), (91, .iload_n 1, 1, 0, 0, 0), (92, .iconst 1, 1, 1, 0, 0), (93, .iadd, 1, 0, 0, 0), (94, .iaload, 1, 0, 0, 0), (95, .bipush 61, 2, 61, 0, 0)],
  [(97, .if_icmp .ne 5, 3, 0, 0, 0), (100, .iload_n 1, 1, 0, 0, 0), (101, .ireturn, 1, 0, 0, 0), (102, .iinc 1 1, 3, 1, 0, 0), (105, .goto (-103), 3, 0, 0, 0), (108, .iload_n 1, 1, 0, 0, 0), (109, .aload_n 0, 1, 0, 0, 0), (110, .getfield 141, 3, 8, 6, 0)],
  [(113, .if_icmp .eq 18, 3, 0, 0, 0), (116, .aload_n 0, 1, 0, 0, 0), (117, .getfield 23, 3, 8, 5, 1), (120, .iload_n 1, 1, 0, 0, 0), (121, .iaload, 1, 0, 0, 0), (122, .bipush 61, 2, 61, 0, 0), (124, .if_icmp .ne 7, 3, 0, 0, 0), (127, .iload_n 1, 1, 0, 0, 0)],
  [(128, .ifCond .ne 5, 3, 0, 0, 0), (131, .iload_n 1, 1, 0, 0, 0), (132, .ireturn, 1, 0, 0, 0), (133, .iload_n 1, 1, 0, 0, 0), (134, .iconst 1, 1, 1, 0, 0), (135, .iadd, 1, 0, 0, 0), (136, .istore_n 2, 1, 0, 0, 0), (137, .iinc 1 1, 3, 1, 0, 0), (140, .iload_n 1, 1, 0, 0, 0), (141, .aload_n 0, 1, 0, 0, 0), (142, .getfield 141, 3, 8, 6, 0)],
  [(145, .if_icmp .ge 28, 3, 0, 0, 0), (148, .aload_n 0, 1, 0, 0, 0), (149, .getfield 23, 3, 8, 5, 1), (152, .iload_n 1, 1, 0, 0, 0), (153, .iaload, 1, 0, 0, 0), (154, .invokestatic 148, 3, 111, 1, 0), (157, .ifCond .eq 16, 3, 0, 0, 0)],
  [(160, .iload_n 1, 1, 0, 0, 0), (161, .iload_n 2, 1, 0, 0, 0), (162, .iconst 3, 1, 3, 0, 0), (163, .iadd, 1, 0, 0, 0), (164, .if_icmp .ge 9, 3, 0, 0, 0), (167, .iinc 1 1, 3, 1, 0, 0), (170, .goto (-30), 3, 0, 0, 0), (173, .iload_n 1, 1, 0, 0, 0), (174, .aload_n 0, 1, 0, 0, 0), (175, .getfield 141, 3, 8, 6, 0)],
  [(178, .if_icmp .lt 8, 3, 0, 0, 0), (181, .iload_n 1, 1, 0, 0, 0), (182, .iload_n 2, 1, 0, 0, 0), (183, .if_icmp .ne 7, 3, 0, 0, 0), (186, .iload_n 1, 1, 0, 0, 0), (187, .goto 5, 3, 0, 0, 0), (190, .bipush (-9), 2, 9, 1, 0)],
  [(192, .ireturn, 1, 0, 0, 0)]]
/-- WornSumsModel.bring([II[III)V -/
def pc_113 : List (List (Nat × smI)) := [[(0, .iconst 0, 1, 0, 0, 0), (1, .istore 5, 2, 0, 0, 0), (3, .iload 5, 2, 0, 0, 0), (5, .iload 4, 2, 0, 0, 0), (7, .if_icmp .ge 21, 3, 0, 0, 0), (10, .aload_n 2, 1, 0, 0, 0), (11, .iload_n 3, 1, 0, 0, 0), (12, .iload 5, 2, 0, 0, 0), (14, .iadd, 1, 0, 0, 0), (15, .aload_n 0, 1, 0, 0, 0)],
  [(16, .iload_n 1, 1, 0, 0, 0), (17, .iload 5, 2, 0, 0, 0), (19, .iadd, 1, 0, 0, 0), (20, .iaload, 1, 0, 0, 0), (21, .iastore, 1, 0, 0, 0), (22, .iinc 5 1, 3, 1, 0, 0), (25, .goto (-22), 3, 0, 0, 0), (28, .return_, 1, 0, 0, 0)]]
/-- WornSumsModel.note()V -/
def pc_114 : List (List (Nat × smI)) := [[(0, .aload_n 0, 1, 0, 0, 0), (1, .getfield 56, 3, 8, 2, 0), (4, .bipush 8, 2, 8, 0, 0), (6, .if_icmp .ne 31, 3, 0, 0, 0), (9, .aload_n 0, 1, 0, 0, 0), (10, .getfield 13, 3, 8, 1, 1), (13, .sipush 219, 3, 219, 0, 0)],
  [(16, .aload_n 0, 1, 0, 0, 0), (17, .getfield 13, 3, 8, 1, 1), (20, .iconst 0, 1, 0, 0, 0), (21, .sipush 1533, 3, 1533, 0, 0), (24, .invokestatic 60, 3, 113, 5, 0), (27, .aload_n 0, 1, 0, 0, 0), (28, .dup, 1, 0, 0, 0), (29, .getfield 56, 3, 8, 2, 0)],
  [(32, .iconst 1, 1, 1, 0, 0), (33, .isub, 1, 0, 0, 0), (34, .putfield 56, 3, 8, 2, 0), (37, .aload_n 0, 1, 0, 0, 0), (38, .getfield 7, 3, 8, 0, 1), (41, .iconst 0, 1, 0, 0, 0), (42, .aload_n 0, 1, 0, 0, 0), (43, .getfield 13, 3, 8, 1, 1), (46, .sipush 219, 3, 219, 0, 0)],
  [(49, .aload_n 0, 1, 0, 0, 0), (50, .getfield 56, 3, 8, 2, 0), (53, .imul, 1, 0, 0, 0), (54, .sipush 219, 3, 219, 0, 0), (57, .invokestatic 60, 3, 113, 5, 0), (60, .aload_n 0, 1, 0, 0, 0), (61, .dup, 1, 0, 0, 0), (62, .getfield 56, 3, 8, 2, 0)],
  [(65, .iconst 1, 1, 1, 0, 0), (66, .iadd, 1, 0, 0, 0), (67, .putfield 56, 3, 8, 2, 0), (70, .return_, 1, 0, 0, 0)]]
/-- WornSumsModel.tells()I -/
def pc_115 : List (List (Nat × smI)) := [[(0, .aload_n 0, 1, 0, 0, 0), (1, .getfield 7, 3, 8, 0, 1), (4, .iconst 0, 1, 0, 0, 0), (5, .iaload, 1, 0, 0, 0), (6, .bipush 6, 2, 6, 0, 0), (8, .if_icmp .ne 6, 3, 0, 0, 0), (11, .bipush (-3), 2, 3, 1, 0), (13, .ireturn, 1, 0, 0, 0), (14, .aload_n 0, 1, 0, 0, 0), (15, .invokevirtual 151, 3, 112, 0, 9)],
  [(18, .istore_n 1, 1, 0, 0, 0), (19, .iload_n 1, 1, 0, 0, 0), (20, .bipush (-9), 2, 9, 1, 0), (22, .if_icmp .eq 8, 3, 0, 0, 0), (25, .bipush (-10), 2, 10, 1, 0), (27, .iload_n 1, 1, 0, 0, 0), (28, .isub, 1, 0, 0, 0), (29, .ireturn, 1, 0, 0, 0), (30, .aload_n 0, 1, 0, 0, 0), (31, .invokevirtual 155, 3, 114, 0, 9)],
  [(34, .iconst 3, 1, 3, 0, 0), (35, .bipush 36, 2, 36, 0, 0), (37, .aload_n 0, 1, 0, 0, 0), (38, .getfield 7, 3, 8, 0, 1), (41, .iconst 0, 1, 0, 0, 0), (42, .iaload, 1, 0, 0, 0), (43, .imul, 1, 0, 0, 0), (44, .iadd, 1, 0, 0, 0), (45, .istore_n 2, 1, 0, 0, 0), (46, .iconst 0, 1, 0, 0, 0), (47, .istore_n 3, 1, 0, 0, 0)],
  [(48, .aload_n 0, 1, 0, 0, 0), (49, .getfield 23, 3, 8, 5, 1), (52, .iload_n 3, 1, 0, 0, 0), (53, .iaload, 1, 0, 0, 0), (54, .bipush 61, 2, 61, 0, 0), (56, .if_icmp .eq 9, 3, 0, 0, 0), (59, .iinc 3 1, 3, 1, 0, 0), (62, .goto (-14), 3, 0, 0, 0)],
  [(65, .aload_n 0, 1, 0, 0, 0), (66, .getfield 7, 3, 8, 0, 1), (69, .iload_n 2, 1, 0, 0, 0), (70, .iload_n 3, 1, 0, 0, 0), (71, .iastore, 1, 0, 0, 0), (72, .aload_n 0, 1, 0, 0, 0), (73, .getfield 23, 3, 8, 5, 1), (76, .iconst 0, 1, 0, 0, 0), (77, .aload_n 0, 1, 0, 0, 0), (78, .getfield 7, 3, 8, 0, 1)],
  [(81, .iload_n 2, 1, 0, 0, 0), (82, .iconst 1, 1, 1, 0, 0), (83, .iadd, 1, 0, 0, 0), (84, .iload_n 3, 1, 0, 0, 0), (85, .invokestatic 60, 3, 113, 5, 0), (88, .aload_n 0, 1, 0, 0, 0), (89, .getfield 7, 3, 8, 0, 1), (92, .iload_n 2, 1, 0, 0, 0), (93, .bipush 32, 2, 32, 0, 0), (95, .iadd, 1, 0, 0, 0)],
  [(96, .aload_n 0, 1, 0, 0, 0), (97, .getfield 141, 3, 8, 6, 0), (100, .iload_n 3, 1, 0, 0, 0), (101, .isub, 1, 0, 0, 0), (102, .iconst 1, 1, 1, 0, 0), (103, .isub, 1, 0, 0, 0), (104, .iastore, 1, 0, 0, 0), (105, .aload_n 0, 1, 0, 0, 0), (106, .getfield 23, 3, 8, 5, 1), (109, .iload_n 3, 1, 0, 0, 0), (110, .iconst 1, 1, 1, 0, 0), (111, .iadd, 1, 0, 0, 0)],
  [(112, .aload_n 0, 1, 0, 0, 0), (113, .getfield 7, 3, 8, 0, 1), (116, .iload_n 2, 1, 0, 0, 0), (117, .bipush 32, 2, 32, 0, 0), (119, .iadd, 1, 0, 0, 0), (120, .iconst 1, 1, 1, 0, 0), (121, .iadd, 1, 0, 0, 0), (122, .aload_n 0, 1, 0, 0, 0), (123, .getfield 141, 3, 8, 6, 0), (126, .iload_n 3, 1, 0, 0, 0), (127, .isub, 1, 0, 0, 0)],
  [(128, .iconst 1, 1, 1, 0, 0), (129, .isub, 1, 0, 0, 0), (130, .invokestatic 60, 3, 113, 5, 0), (133, .aload_n 0, 1, 0, 0, 0), (134, .getfield 7, 3, 8, 0, 1), (137, .iconst 0, 1, 0, 0, 0), (138, .dup2, 1, 0, 0, 0), (139, .iaload, 1, 0, 0, 0), (140, .iconst 1, 1, 1, 0, 0), (141, .iadd, 1, 0, 0, 0), (142, .iastore, 1, 0, 0, 0), (143, .aload_n 0, 1, 0, 0, 0)],
  [(144, .iconst 0, 1, 0, 0, 0), (145, .putfield 141, 3, 8, 6, 0), (148, .aload_n 0, 1, 0, 0, 0), (149, .getfield 7, 3, 8, 0, 1), (152, .iconst 0, 1, 0, 0, 0), (153, .iaload, 1, 0, 0, 0), (154, .iconst 1, 1, 1, 0, 0), (155, .isub, 1, 0, 0, 0), (156, .ireturn, 1, 0, 0, 0)]]
/-- WornSumsModel.isEntry(I)Z -/
def pc_116 : List (List (Nat × smI)) := [[(0, .iload_n 1, 1, 0, 0, 0), (1, .iconst 0, 1, 0, 0, 0), (2, .aload_n 0, 1, 0, 0, 0), (3, .getfield 7, 3, 8, 0, 1), (6, .iconst 0, 1, 0, 0, 0), (7, .iaload, 1, 0, 0, 0), (8, .iconst 1, 1, 1, 0, 0), (9, .isub, 1, 0, 0, 0), (10, .invokestatic 137, 3, 107, 3, 0), (13, .ireturn, 1, 0, 0, 1)]]
/-- WornSumsModel.drops(I)I -/
def pc_117 : List (List (Nat × smI)) := [[(0, .aload_n 0, 1, 0, 0, 0), (1, .iload_n 1, 1, 0, 0, 0), (2, .invokevirtual 158, 3, 116, 1, 9), (5, .ifCond .ne 5, 3, 0, 0, 0), (8, .iconst (-1), 1, 1, 1, 0), (9, .ireturn, 1, 0, 0, 0), (10, .aload_n 0, 1, 0, 0, 0), (11, .invokevirtual 155, 3, 114, 0, 9), (14, .iconst 3, 1, 3, 0, 0), (15, .bipush 36, 2, 36, 0, 0)],
  [(17, .iload_n 1, 1, 0, 0, 0), (18, .imul, 1, 0, 0, 0), (19, .iadd, 1, 0, 0, 0), (20, .istore_n 2, 1, 0, 0, 0), (21, .iload_n 2, 1, 0, 0, 0), (22, .bipush 36, 2, 36, 0, 0), (24, .iadd, 1, 0, 0, 0), (25, .sipush 219, 3, 219, 0, 0), (28, .if_icmp .ge 24, 3, 0, 0, 0), (31, .aload_n 0, 1, 0, 0, 0)],
  [(32, .getfield 7, 3, 8, 0, 1), (35, .iload_n 2, 1, 0, 0, 0), (36, .aload_n 0, 1, 0, 0, 0), (37, .getfield 7, 3, 8, 0, 1), (40, .iload_n 2, 1, 0, 0, 0), (41, .bipush 36, 2, 36, 0, 0), (43, .iadd, 1, 0, 0, 0), (44, .iaload, 1, 0, 0, 0), (45, .iastore, 1, 0, 0, 0), (46, .iinc 2 1, 3, 1, 0, 0)],
  [(49, .goto (-28), 3, 0, 0, 0), (52, .aload_n 0, 1, 0, 0, 0), (53, .getfield 7, 3, 8, 0, 1), (56, .iconst 0, 1, 0, 0, 0), (57, .dup2, 1, 0, 0, 0), (58, .iaload, 1, 0, 0, 0), (59, .iconst 1, 1, 1, 0, 0), (60, .isub, 1, 0, 0, 0), (61, .iastore, 1, 0, 0, 0), (62, .aload_n 0, 1, 0, 0, 0), (63, .getfield 7, 3, 8, 0, 1)],
  [(66, .iconst 0, 1, 0, 0, 0), (67, .iaload, 1, 0, 0, 0), (68, .ireturn, 1, 0, 0, 0)]]
/-- WornSumsModel.partOf(II)I -/
def pc_118 : List (List (Nat × smI)) := [[(0, .iconst 3, 1, 3, 0, 0), (1, .bipush 36, 2, 36, 0, 0), (3, .iload_n 0, 1, 0, 0, 0), (4, .imul, 1, 0, 0, 0), (5, .iadd, 1, 0, 0, 0), (6, .iload_n 1, 1, 0, 0, 0), (7, .iconst 1, 1, 1, 0, 0), (8, .if_icmp .ne 8, 3, 0, 0, 0), (11, .bipush 32, 2, 32, 0, 0), (13, .goto 4, 3, 0, 0, 0)],
  [(16, .iconst 0, 1, 0, 0, 0), (17, .iadd, 1, 0, 0, 0), (18, .ireturn, 1, 0, 0, 0)]]
/-- WornSumsModel.isPlace(III)Z -/
def pc_119 : List (List (Nat × smI)) := [[(0, .aload_n 0, 1, 0, 0, 0), (1, .iload_n 1, 1, 0, 0, 0), (2, .invokevirtual 158, 3, 116, 1, 9), (5, .ifCond .eq 36, 3, 0, 0, 0), (8, .iload_n 2, 1, 0, 0, 0), (9, .iconst 0, 1, 0, 0, 0), (10, .iconst 1, 1, 1, 0, 0), (11, .invokestatic 137, 3, 107, 3, 0), (14, .ifCond .eq 27, 3, 0, 0, 0)],
  [(17, .iload_n 3, 1, 0, 0, 0), (18, .iconst 0, 1, 0, 0, 0), (19, .aload_n 0, 1, 0, 0, 0), (20, .getfield 7, 3, 8, 0, 1), (23, .iload_n 1, 1, 0, 0, 0), (24, .iload_n 2, 1, 0, 0, 0), (25, .invokestatic 161, 3, 118, 2, 0), (28, .iaload, 1, 0, 0, 0), (29, .iconst 1, 1, 1, 0, 0), (30, .isub, 1, 0, 0, 0), (31, .invokestatic 137, 3, 107, 3, 0)],
  [(34, .ifCond .eq 7, 3, 0, 0, 0), (37, .iconst 1, 1, 1, 0, 0), (38, .goto 4, 3, 0, 0, 0), (41, .iconst 0, 1, 0, 0, 0), (42, .ireturn, 1, 0, 0, 1)]]
/-- WornSumsModel.wears(III)I -/
def pc_120 : List (List (Nat × smI)) := [[(0, .aload_n 0, 1, 0, 0, 0), (1, .iload_n 1, 1, 0, 0, 0), (2, .iload_n 2, 1, 0, 0, 0), (3, .iload_n 3, 1, 0, 0, 0), (4, .invokevirtual 165, 3, 119, 3, 9), (7, .ifCond .ne 5, 3, 0, 0, 0), (10, .iconst (-1), 1, 1, 1, 0), (11, .ireturn, 1, 0, 0, 0), (12, .iload_n 1, 1, 0, 0, 0), (13, .iload_n 2, 1, 0, 0, 0), (14, .invokestatic 161, 3, 118, 2, 0)],
  [(17, .iconst 1, 1, 1, 0, 0), (18, .iadd, 1, 0, 0, 0), (19, .iload_n 3, 1, 0, 0, 0), (20, .iadd, 1, 0, 0, 0), (21, .istore 4, 2, 0, 0, 0), (23, .aload_n 0, 1, 0, 0, 0), (24, .getfield 7, 3, 8, 0, 1), (27, .iload 4, 2, 0, 0, 0), (29, .iaload, 1, 0, 0, 0), (30, .istore 5, 2, 0, 0, 0)],
  [(32, .iload 5, 2, 0, 0, 0), (34, .bipush 63, 2, 63, 0, 0), (36, .if_icmp .eq 10, 3, 0, 0, 0), (39, .iload 5, 2, 0, 0, 0), (41, .bipush 32, 2, 32, 0, 0), (43, .if_icmp .ne 6, 3, 0, 0, 0), (46, .bipush (-2), 2, 2, 1, 0)],
  [(48, .ireturn, 1, 0, 0, 0), (49, .aload_n 0, 1, 0, 0, 0), (50, .invokevirtual 155, 3, 114, 0, 9), (53, .aload_n 0, 1, 0, 0, 0), (54, .getfield 7, 3, 8, 0, 1), (57, .iload 4, 2, 0, 0, 0), (59, .bipush 63, 2, 63, 0, 0), (61, .iastore, 1, 0, 0, 0), (62, .iload 5, 2, 0, 0, 0)],
  [(64, .ireturn, 1, 0, 0, 0)]]
/-- WornSumsModel.wornIn(I)I -/
def pc_121 : List (List (Nat × smI)) := [[(0, .iconst 0, 1, 0, 0, 0), (1, .istore_n 2, 1, 0, 0, 0), (2, .iconst 0, 1, 0, 0, 0), (3, .istore_n 3, 1, 0, 0, 0), (4, .iload_n 3, 1, 0, 0, 0), (5, .iconst 2, 1, 2, 0, 0), (6, .if_icmp .ge 60, 3, 0, 0, 0), (9, .iload_n 1, 1, 0, 0, 0), (10, .iload_n 3, 1, 0, 0, 0), (11, .invokestatic 161, 3, 118, 2, 0), (14, .istore 4, 2, 0, 0, 0)],
  [(16, .iconst 1, 1, 1, 0, 0), (17, .istore 5, 2, 0, 0, 0), (19, .iload 5, 2, 0, 0, 0), (21, .aload_n 0, 1, 0, 0, 0), (22, .getfield 7, 3, 8, 0, 1), (25, .iload 4, 2, 0, 0, 0), (27, .iaload, 1, 0, 0, 0), (28, .if_icmp .gt 32, 3, 0, 0, 0), (31, .iload_n 2, 1, 0, 0, 0)],
  [(32, .aload_n 0, 1, 0, 0, 0), (33, .getfield 7, 3, 8, 0, 1), (36, .iload 4, 2, 0, 0, 0), (38, .iload 5, 2, 0, 0, 0), (40, .iadd, 1, 0, 0, 0), (41, .iaload, 1, 0, 0, 0), (42, .bipush 63, 2, 63, 0, 0), (44, .if_icmp .ne 7, 3, 0, 0, 0), (47, .iconst 1, 1, 1, 0, 0)],
  [(48, .goto 4, 3, 0, 0, 0), (51, .iconst 0, 1, 0, 0, 0), (52, .iadd, 1, 0, 0, 0), (53, .istore_n 2, 1, 0, 0, 0), (54, .iinc 5 1, 3, 1, 0, 0), (57, .goto (-38), 3, 0, 0, 0), (60, .iinc 3 1, 3, 1, 0, 0), (63, .goto (-59), 3, 0, 0, 0)],
  [(66, .iload_n 2, 1, 0, 0, 0), (67, .ireturn, 1, 0, 0, 0)]]
/-- WornSumsModel.makes(IIII)I -/
def pc_122 : List (List (Nat × smI)) := [[(0, .iload_n 2, 1, 0, 0, 0), (1, .ifCond .ne 15, 3, 0, 0, 0), (4, .iload 4, 2, 0, 0, 0), (6, .bipush 97, 2, 97, 0, 0), (8, .bipush 122, 2, 122, 0, 0), (10, .invokestatic 137, 3, 107, 3, 0), (13, .goto 12, 3, 0, 0, 0)],
  [(16, .iload 4, 2, 0, 0, 0), (18, .bipush 48, 2, 48, 0, 0), (20, .bipush 57, 2, 57, 0, 0), (22, .invokestatic 137, 3, 107, 3, 0), (25, .istore 5, 2, 0, 0, 0), (27, .aload_n 0, 1, 0, 0, 0), (28, .iload_n 1, 1, 0, 0, 0), (29, .iload_n 2, 1, 0, 0, 0), (30, .iload_n 3, 1, 0, 0, 0), (31, .invokevirtual 165, 3, 119, 3, 9)],
  [(34, .ifCond .eq 8, 3, 0, 0, 0), (37, .iload 5, 2, 0, 0, 0), (39, .ifCond .ne 5, 3, 0, 0, 0), (42, .iconst (-1), 1, 1, 1, 0), (43, .ireturn, 1, 0, 0, 0), (44, .iload_n 1, 1, 0, 0, 0), (45, .iload_n 2, 1, 0, 0, 0), (46, .invokestatic 161, 3, 118, 2, 0)],
  [(49, .iconst 1, 1, 1, 0, 0), (50, .iadd, 1, 0, 0, 0), (51, .iload_n 3, 1, 0, 0, 0), (52, .iadd, 1, 0, 0, 0), (53, .istore 6, 2, 0, 0, 0), (55, .aload_n 0, 1, 0, 0, 0), (56, .getfield 7, 3, 8, 0, 1), (59, .iload 6, 2, 0, 0, 0), (61, .iaload, 1, 0, 0, 0), (62, .bipush 63, 2, 63, 0, 0)],
  [(64, .if_icmp .eq 6, 3, 0, 0, 0), (67, .bipush (-2), 2, 2, 1, 0), (69, .ireturn, 1, 0, 0, 0), (70, .aload_n 0, 1, 0, 0, 0), (71, .invokevirtual 155, 3, 114, 0, 9), (74, .aload_n 0, 1, 0, 0, 0), (75, .getfield 7, 3, 8, 0, 1), (78, .iload 6, 2, 0, 0, 0)],
  [(80, .iload 4, 2, 0, 0, 0), (82, .iastore, 1, 0, 0, 0), (83, .aload_n 0, 1, 0, 0, 0), (84, .iload_n 1, 1, 0, 0, 0), (85, .invokevirtual 168, 3, 121, 1, 9), (88, .ireturn, 1, 0, 0, 0)]]
/-- WornSumsModel.change(II)I -/
def pc_123 : List (List (Nat × smI)) := [[(0, .aload_n 0, 1, 0, 0, 0), (1, .getfield 7, 3, 8, 0, 1), (4, .iload_n 1, 1, 0, 0, 0), (5, .iaload, 1, 0, 0, 0), (6, .istore_n 3, 1, 0, 0, 0), (7, .iload_n 3, 1, 0, 0, 0), (8, .iload_n 2, 1, 0, 0, 0), (9, .if_icmp .ne 6, 3, 0, 0, 0), (12, .bipush (-2), 2, 2, 1, 0), (14, .ireturn, 1, 0, 0, 0), (15, .aload_n 0, 1, 0, 0, 0)],
  [(16, .invokevirtual 155, 3, 114, 0, 9), (19, .aload_n 0, 1, 0, 0, 0), (20, .getfield 7, 3, 8, 0, 1), (23, .iload_n 1, 1, 0, 0, 0), (24, .iload_n 2, 1, 0, 0, 0), (25, .iastore, 1, 0, 0, 0), (26, .iload_n 3, 1, 0, 0, 0), (27, .ireturn, 1, 0, 0, 0)]]
/-- WornSumsModel.slacks(I)I -/
def pc_124 : List (List (Nat × smI)) := [[(0, .iload_n 1, 1, 0, 0, 0), (1, .iconst 0, 1, 0, 0, 0), (2, .iconst 2, 1, 2, 0, 0), (3, .invokestatic 137, 3, 107, 3, 0), (6, .ifCond .eq 12, 3, 0, 0, 0), (9, .aload_n 0, 1, 0, 0, 0), (10, .iconst 1, 1, 1, 0, 0), (11, .iload_n 1, 1, 0, 0, 0), (12, .invokevirtual 172, 3, 123, 2, 9), (15, .goto 4, 3, 0, 0, 0)],
  [(18, .iconst (-1), 1, 1, 1, 0), (19, .ireturn, 1, 0, 0, 0)]]
/-- WornSumsModel.totals(I)I -/
def pc_125 : List (List (Nat × smI)) := [[(0, .iload_n 1, 1, 0, 0, 0), (1, .iconst 0, 1, 0, 0, 0), (2, .sipush 9999, 3, 9999, 0, 0), (5, .invokestatic 137, 3, 107, 3, 0), (8, .ifCond .ne 9, 3, 0, 0, 0), (11, .iload_n 1, 1, 0, 0, 0), (12, .bipush (-9), 2, 9, 1, 0), (14, .if_icmp .ne 12, 3, 0, 0, 0)],
  [(17, .aload_n 0, 1, 0, 0, 0), (18, .iconst 2, 1, 2, 0, 0), (19, .iload_n 1, 1, 0, 0, 0), (20, .invokevirtual 172, 3, 123, 2, 9), (23, .goto 4, 3, 0, 0, 0), (26, .iconst (-1), 1, 1, 1, 0), (27, .ireturn, 1, 0, 0, 0)]]
/-- WornSumsModel.undo()I -/
def pc_126 : List (List (Nat × smI)) := [[(0, .aload_n 0, 1, 0, 0, 0), (1, .getfield 56, 3, 8, 2, 0), (4, .ifCond .ne 6, 3, 0, 0, 0), (7, .bipush (-2), 2, 2, 1, 0), (9, .ireturn, 1, 0, 0, 0), (10, .aload_n 0, 1, 0, 0, 0), (11, .dup, 1, 0, 0, 0), (12, .getfield 56, 3, 8, 2, 0), (15, .iconst 1, 1, 1, 0, 0)],
  [(16, .isub, 1, 0, 0, 0), (17, .putfield 56, 3, 8, 2, 0), (20, .aload_n 0, 1, 0, 0, 0), (21, .getfield 13, 3, 8, 1, 1), (24, .sipush 219, 3, 219, 0, 0), (27, .aload_n 0, 1, 0, 0, 0), (28, .getfield 56, 3, 8, 2, 0), (31, .imul, 1, 0, 0, 0)],
  [(32, .aload_n 0, 1, 0, 0, 0), (33, .getfield 7, 3, 8, 0, 1), (36, .iconst 0, 1, 0, 0, 0), (37, .sipush 219, 3, 219, 0, 0), (40, .invokestatic 60, 3, 113, 5, 0), (43, .aload_n 0, 1, 0, 0, 0), (44, .getfield 56, 3, 8, 2, 0), (47, .ireturn, 1, 0, 0, 0)]]
/-- WornSumsModel.lettersOf(I)J -/
def pc_127 : List (List (Nat × smI)) := [[(0, .iload_n 0, 1, 0, 0, 0), (1, .tableswitch 255 0 29 #[135, 139, 143, 147, 151, 155, 159, 163, 167, 171, 175, 179, 183, 187, 191, 195, 199, 203, 207, 211, 215, 219, 223, 227, 231, 235, 239, 243, 247, 251], 135, 0, 0, 0)],
  [],
  [],
  [],
  [],
  [],
  [],
  [],
  [(136, .ldc2_w 64, 3, 510138, 0, 0), (139, .lreturn, 1, 0, 0, 0), (140, .ldc2_w 66, 3, 5583, 0, 0), (143, .lreturn, 1, 0, 0, 0)],
  [(144, .ldc2_w 68, 3, 16116, 0, 0), (147, .lreturn, 1, 0, 0, 0), (148, .ldc2_w 70, 3, 5425428, 0, 0), (151, .lreturn, 1, 0, 0, 0), (152, .ldc2_w 72, 3, 611814, 0, 0), (155, .lreturn, 1, 0, 0, 0), (156, .ldc2_w 74, 3, 186662, 0, 0), (159, .lreturn, 1, 0, 0, 0)],
  [(160, .ldc2_w 76, 3, 24883, 0, 0), (163, .lreturn, 1, 0, 0, 0), (164, .ldc2_w 78, 3, 14866611, 0, 0), (167, .lreturn, 1, 0, 0, 0), (168, .ldc2_w 80, 3, 21241125, 0, 0), (171, .lreturn, 1, 0, 0, 0), (172, .ldc2_w 82, 3, 178478, 0, 0), (175, .lreturn, 1, 0, 0, 0)],
  [(176, .ldc2_w 84, 3, 14516, 0, 0), (179, .lreturn, 1, 0, 0, 0), (180, .ldc2_w 86, 3, 475731333, 0, 0), (183, .lreturn, 1, 0, 0, 0), (184, .ldc2_w 88, 3, 191239924, 0, 0), (187, .lreturn, 1, 0, 0, 0), (188, .ldc2_w 90, 3, 486594389268, 0, 0), (191, .lreturn, 1, 0, 0, 0)],
  [(192, .ldc2_w 92, 3, 486594401766, 0, 0), (195, .lreturn, 1, 0, 0, 0), (196, .ldc2_w 94, 3, 15206062374, 0, 0), (199, .lreturn, 1, 0, 0, 0), (200, .ldc2_w 96, 3, 15206080819, 0, 0), (203, .lreturn, 1, 0, 0, 0), (204, .ldc2_w 98, 3, 15571016145075, 0, 0), (207, .lreturn, 1, 0, 0, 0)],
  [(208, .ldc2_w 100, 3, 486594059557, 0, 0), (211, .lreturn, 1, 0, 0, 0), (212, .ldc2_w 102, 3, 486593968430, 0, 0), (215, .lreturn, 1, 0, 0, 0), (216, .ldc2_w 104, 3, 860296948, 0, 0), (219, .lreturn, 1, 0, 0, 0), (220, .ldc2_w 106, 3, 860431636, 0, 0), (223, .lreturn, 1, 0, 0, 0)],
  [(224, .ldc2_w 108, 3, 26888678, 0, 0), (227, .lreturn, 1, 0, 0, 0), (228, .ldc2_w 110, 3, 26876198, 0, 0), (231, .lreturn, 1, 0, 0, 0), (232, .ldc2_w 112, 3, 26894643, 0, 0), (235, .lreturn, 1, 0, 0, 0), (236, .ldc2_w 114, 3, 27529500851, 0, 0), (239, .lreturn, 1, 0, 0, 0)],
  [(240, .ldc2_w 116, 3, 860101925, 0, 0), (243, .lreturn, 1, 0, 0, 0), (244, .ldc2_w 118, 3, 860010798, 0, 0), (247, .lreturn, 1, 0, 0, 0), (248, .ldc2_w 120, 3, 4481759912, 0, 0), (251, .lreturn, 1, 0, 0, 0), (252, .ldc2_w 122, 3, 4545, 0, 0), (255, .lreturn, 1, 0, 0, 0)],
  [(256, .lconst 0, 1, 0, 0, 0), (257, .lreturn, 1, 0, 0, 0)]]
/-- WornSumsModel.say(I)V -/
def pc_128 : List (List (Nat × smI)) := [[(0, .aload_n 0, 1, 0, 0, 0), (1, .getfield 124, 3, 8, 8, 0), (4, .ifCond .le 24, 3, 0, 0, 0), (7, .aload_n 0, 1, 0, 0, 0), (8, .getfield 26, 3, 8, 7, 1), (11, .aload_n 0, 1, 0, 0, 0), (12, .getfield 124, 3, 8, 8, 0), (15, .bipush 32, 2, 32, 0, 0)],
  [(17, .iastore, 1, 0, 0, 0), (18, .aload_n 0, 1, 0, 0, 0), (19, .dup, 1, 0, 0, 0), (20, .getfield 124, 3, 8, 8, 0), (23, .iconst 1, 1, 1, 0, 0), (24, .iadd, 1, 0, 0, 0), (25, .putfield 124, 3, 8, 8, 0), (28, .iload_n 1, 1, 0, 0, 0), (29, .invokestatic 127, 3, 127, 1, 0)],
  [(32, .lstore_n 2, 1, 0, 0, 0), (33, .lload_n 2, 1, 0, 0, 0), (34, .lconst 0, 1, 0, 0, 0), (35, .lcmp, 1, 0, 0, 0), (36, .ifCond .le 42, 3, 0, 0, 0), (39, .aload_n 0, 1, 0, 0, 0), (40, .getfield 26, 3, 8, 7, 1), (43, .aload_n 0, 1, 0, 0, 0), (44, .getfield 124, 3, 8, 8, 0), (47, .bipush 97, 2, 97, 0, 0)],
  [(49, .lload_n 2, 1, 0, 0, 0), (50, .ldc2_w 131, 3, 32, 0, 0), (53, .lrem, 1, 0, 0, 0), (54, .l2i, 1, 0, 0, 0), (55, .iadd, 1, 0, 0, 0), (56, .iconst 1, 1, 1, 0, 0), (57, .isub, 1, 0, 0, 0), (58, .iastore, 1, 0, 0, 0), (59, .aload_n 0, 1, 0, 0, 0), (60, .dup, 1, 0, 0, 0), (61, .getfield 124, 3, 8, 8, 0)],
  [(64, .iconst 1, 1, 1, 0, 0), (65, .iadd, 1, 0, 0, 0), (66, .putfield 124, 3, 8, 8, 0), (69, .lload_n 2, 1, 0, 0, 0), (70, .ldc2_w 131, 3, 32, 0, 0), (73, .ldiv, 1, 0, 0, 0), (74, .lstore_n 2, 1, 0, 0, 0), (75, .goto (-42), 3, 0, 0, 0), (78, .return_, 1, 0, 0, 0)]]
/-- WornSumsModel.spell(I)V -/
def pc_129 : List (List (Nat × smI)) := [[(0, .aload_n 0, 1, 0, 0, 0), (1, .iconst 0, 1, 0, 0, 0), (2, .putfield 124, 3, 8, 8, 0), (5, .iload_n 1, 1, 0, 0, 0), (6, .bipush 100, 2, 100, 0, 0), (8, .irem, 1, 0, 0, 0), (9, .istore_n 2, 1, 0, 0, 0), (10, .iload_n 1, 1, 0, 0, 0), (11, .bipush 100, 2, 100, 0, 0), (13, .if_icmp .lt 27, 3, 0, 0, 0)],
  [(16, .aload_n 0, 1, 0, 0, 0), (17, .iload_n 1, 1, 0, 0, 0), (18, .bipush 100, 2, 100, 0, 0), (20, .idiv, 1, 0, 0, 0), (21, .invokevirtual 133, 3, 128, 1, 9), (24, .aload_n 0, 1, 0, 0, 0), (25, .bipush 28, 2, 28, 0, 0), (27, .invokevirtual 133, 3, 128, 1, 9), (30, .iload_n 2, 1, 0, 0, 0), (31, .ifCond .le 9, 3, 0, 0, 0)],
  [(34, .aload_n 0, 1, 0, 0, 0), (35, .bipush 29, 2, 29, 0, 0), (37, .invokevirtual 133, 3, 128, 1, 9), (40, .iload_n 1, 1, 0, 0, 0), (41, .bipush 100, 2, 100, 0, 0), (43, .if_icmp .lt 7, 3, 0, 0, 0), (46, .iload_n 2, 1, 0, 0, 0), (47, .ifCond .le 24, 3, 0, 0, 0)],
  [(50, .aload_n 0, 1, 0, 0, 0), (51, .iload_n 2, 1, 0, 0, 0), (52, .bipush 20, 2, 20, 0, 0), (54, .if_icmp .ge 7, 3, 0, 0, 0), (57, .iload_n 2, 1, 0, 0, 0), (58, .goto 10, 3, 0, 0, 0), (61, .bipush 18, 2, 18, 0, 0), (63, .iload_n 2, 1, 0, 0, 0)],
  [(64, .bipush 10, 2, 10, 0, 0), (66, .idiv, 1, 0, 0, 0), (67, .iadd, 1, 0, 0, 0), (68, .invokevirtual 133, 3, 128, 1, 9), (71, .iload_n 2, 1, 0, 0, 0), (72, .bipush 20, 2, 20, 0, 0), (74, .if_icmp .lt 18, 3, 0, 0, 0), (77, .iload_n 2, 1, 0, 0, 0), (78, .bipush 10, 2, 10, 0, 0)],
  [(80, .irem, 1, 0, 0, 0), (81, .ifCond .le 11, 3, 0, 0, 0), (84, .aload_n 0, 1, 0, 0, 0), (85, .iload_n 2, 1, 0, 0, 0), (86, .bipush 10, 2, 10, 0, 0), (88, .irem, 1, 0, 0, 0), (89, .invokevirtual 133, 3, 128, 1, 9), (92, .return_, 1, 0, 0, 0)]]
/-- WornSumsModel.doubtByWords(II)I -/
def pc_130 : List (List (Nat × smI)) := [[(0, .iload_n 1, 1, 0, 0, 0), (1, .iconst 0, 1, 0, 0, 0), (2, .invokestatic 161, 3, 118, 2, 0), (5, .istore_n 3, 1, 0, 0, 0), (6, .aload_n 0, 1, 0, 0, 0), (7, .iload_n 2, 1, 0, 0, 0), (8, .invokevirtual 175, 3, 129, 1, 9), (11, .aload_n 0, 1, 0, 0, 0), (12, .getfield 124, 3, 8, 8, 0), (15, .aload_n 0, 1, 0, 0, 0)],
  [(16, .getfield 7, 3, 8, 0, 1), (19, .iload_n 3, 1, 0, 0, 0), (20, .iaload, 1, 0, 0, 0), (21, .if_icmp .eq 6, 3, 0, 0, 0), (24, .bipush (-9), 2, 9, 1, 0), (26, .ireturn, 1, 0, 0, 0), (27, .iconst 0, 1, 0, 0, 0), (28, .istore 4, 2, 0, 0, 0), (30, .iconst 0, 1, 0, 0, 0), (31, .istore 5, 2, 0, 0, 0)],
  [(33, .iconst 0, 1, 0, 0, 0), (34, .istore 6, 2, 0, 0, 0), (36, .iload 6, 2, 0, 0, 0), (38, .aload_n 0, 1, 0, 0, 0), (39, .getfield 124, 3, 8, 8, 0), (42, .if_icmp .ge 119, 3, 0, 0, 0), (45, .aload_n 0, 1, 0, 0, 0), (46, .getfield 7, 3, 8, 0, 1)],
  [(49, .iload_n 3, 1, 0, 0, 0), (50, .iconst 1, 1, 1, 0, 0), (51, .iadd, 1, 0, 0, 0), (52, .iload 6, 2, 0, 0, 0), (54, .iadd, 1, 0, 0, 0), (55, .iaload, 1, 0, 0, 0), (56, .istore 7, 2, 0, 0, 0), (58, .iload 7, 2, 0, 0, 0), (60, .bipush 32, 2, 32, 0, 0), (62, .if_icmp .ne 7, 3, 0, 0, 0)],
  [(65, .iconst 1, 1, 1, 0, 0), (66, .goto 4, 3, 0, 0, 0), (69, .iconst 0, 1, 0, 0, 0), (70, .aload_n 0, 1, 0, 0, 0), (71, .getfield 26, 3, 8, 7, 1), (74, .iload 6, 2, 0, 0, 0), (76, .iaload, 1, 0, 0, 0), (77, .bipush 32, 2, 32, 0, 0), (79, .if_icmp .ne 7, 3, 0, 0, 0)],
  [(82, .iconst 1, 1, 1, 0, 0), (83, .goto 4, 3, 0, 0, 0), (86, .iconst 0, 1, 0, 0, 0), (87, .if_icmp .eq 6, 3, 0, 0, 0), (90, .bipush (-9), 2, 9, 1, 0), (92, .ireturn, 1, 0, 0, 0), (93, .iload 5, 2, 0, 0, 0), (95, .iload 7, 2, 0, 0, 0)],
  [(97, .bipush 63, 2, 63, 0, 0), (99, .if_icmp .eq 19, 3, 0, 0, 0), (102, .iload 7, 2, 0, 0, 0), (104, .aload_n 0, 1, 0, 0, 0), (105, .getfield 26, 3, 8, 7, 1), (108, .iload 6, 2, 0, 0, 0), (110, .iaload, 1, 0, 0, 0), (111, .if_icmp .eq 7, 3, 0, 0, 0)],
  [(114, .iconst 1, 1, 1, 0, 0), (115, .goto 4, 3, 0, 0, 0), (118, .iconst 0, 1, 0, 0, 0), (119, .iadd, 1, 0, 0, 0), (120, .istore 5, 2, 0, 0, 0), (122, .iload 4, 2, 0, 0, 0), (124, .iload 7, 2, 0, 0, 0), (126, .bipush 63, 2, 63, 0, 0)],
  [(128, .if_icmp .ne 7, 3, 0, 0, 0), (131, .iconst 1, 1, 1, 0, 0), (132, .goto 20, 3, 0, 0, 0), (135, .iload 7, 2, 0, 0, 0), (137, .aload_n 0, 1, 0, 0, 0), (138, .getfield 26, 3, 8, 7, 1), (141, .iload 6, 2, 0, 0, 0), (143, .iaload, 1, 0, 0, 0)],
  [(144, .if_icmp .eq 7, 3, 0, 0, 0), (147, .iconst 3, 1, 3, 0, 0), (148, .goto 4, 3, 0, 0, 0), (151, .iconst 0, 1, 0, 0, 0), (152, .iadd, 1, 0, 0, 0), (153, .istore 4, 2, 0, 0, 0), (155, .iinc 6 1, 3, 1, 0, 0), (158, .goto (-122), 3, 0, 0, 0)],
  [(161, .iload 5, 2, 0, 0, 0), (163, .aload_n 0, 1, 0, 0, 0), (164, .getfield 7, 3, 8, 0, 1), (167, .iconst 1, 1, 1, 0, 0), (168, .iaload, 1, 0, 0, 0), (169, .if_icmp .le 8, 3, 0, 0, 0), (172, .bipush (-9), 2, 9, 1, 0), (174, .goto 5, 3, 0, 0, 0)],
  [(177, .iload 4, 2, 0, 0, 0), (179, .ireturn, 1, 0, 0, 0)]]
/-- WornSumsModel.areAlike(II)Z -/
def pc_131 : List (List (Nat × smI)) := [[(0, .iload_n 0, 1, 0, 0, 0), (1, .iload_n 1, 1, 0, 0, 0), (2, .if_icmp .ge 7, 3, 0, 0, 0), (5, .iload_n 0, 1, 0, 0, 0), (6, .goto 4, 3, 0, 0, 0), (9, .iload_n 1, 1, 0, 0, 0), (10, .istore_n 2, 1, 0, 0, 0), (11, .iload_n 0, 1, 0, 0, 0), (12, .iload_n 1, 1, 0, 0, 0), (13, .if_icmp .ge 7, 3, 0, 0, 0)],
  [(16, .iload_n 1, 1, 0, 0, 0), (17, .goto 4, 3, 0, 0, 0), (20, .iload_n 0, 1, 0, 0, 0), (21, .istore_n 3, 1, 0, 0, 0), (22, .bipush 10, 2, 10, 0, 0), (24, .iload_n 2, 1, 0, 0, 0), (25, .imul, 1, 0, 0, 0), (26, .iload_n 3, 1, 0, 0, 0), (27, .iadd, 1, 0, 0, 0), (28, .istore 4, 2, 0, 0, 0), (30, .iload 4, 2, 0, 0, 0)],
  [(32, .bipush 6, 2, 6, 0, 0), (34, .if_icmp .eq 45, 3, 0, 0, 0), (37, .iload 4, 2, 0, 0, 0), (39, .bipush 8, 2, 8, 0, 0), (41, .if_icmp .eq 38, 3, 0, 0, 0), (44, .iload 4, 2, 0, 0, 0), (46, .bipush 17, 2, 17, 0, 0)],
  [(48, .if_icmp .eq 31, 3, 0, 0, 0), (51, .iload 4, 2, 0, 0, 0), (53, .bipush 38, 2, 38, 0, 0), (55, .if_icmp .eq 24, 3, 0, 0, 0), (58, .iload 4, 2, 0, 0, 0), (60, .bipush 49, 2, 49, 0, 0), (62, .if_icmp .eq 17, 3, 0, 0, 0)],
  [(65, .iload 4, 2, 0, 0, 0), (67, .bipush 56, 2, 56, 0, 0), (69, .if_icmp .eq 10, 3, 0, 0, 0), (72, .iload 4, 2, 0, 0, 0), (74, .bipush 68, 2, 68, 0, 0), (76, .if_icmp .ne 7, 3, 0, 0, 0), (79, .iconst 1, 1, 1, 0, 0)],
  [(80, .goto 4, 3, 0, 0, 0), (83, .iconst 0, 1, 0, 0, 0), (84, .ireturn, 1, 0, 0, 1)]]
/-- WornSumsModel.doubtByFigures(II)I -/
def pc_132 : List (List (Nat × smI)) := [[(0, .iload_n 1, 1, 0, 0, 0), (1, .iconst 1, 1, 1, 0, 0), (2, .invokestatic 161, 3, 118, 2, 0), (5, .istore_n 3, 1, 0, 0, 0), (6, .iload_n 2, 1, 0, 0, 0), (7, .bipush 10, 2, 10, 0, 0), (9, .if_icmp .ge 7, 3, 0, 0, 0), (12, .iconst 1, 1, 1, 0, 0), (13, .goto 14, 3, 0, 0, 0)],
  [(16, .iload_n 2, 1, 0, 0, 0), (17, .bipush 100, 2, 100, 0, 0), (19, .if_icmp .ge 7, 3, 0, 0, 0), (22, .iconst 2, 1, 2, 0, 0), (23, .goto 4, 3, 0, 0, 0), (26, .iconst 3, 1, 3, 0, 0), (27, .istore 4, 2, 0, 0, 0), (29, .iload 4, 2, 0, 0, 0), (31, .aload_n 0, 1, 0, 0, 0)],
  [(32, .getfield 7, 3, 8, 0, 1), (35, .iload_n 3, 1, 0, 0, 0), (36, .iaload, 1, 0, 0, 0), (37, .if_icmp .eq 6, 3, 0, 0, 0), (40, .bipush (-9), 2, 9, 1, 0), (42, .ireturn, 1, 0, 0, 0), (43, .iconst 0, 1, 0, 0, 0), (44, .istore 5, 2, 0, 0, 0), (46, .iload_n 2, 1, 0, 0, 0), (47, .istore 6, 2, 0, 0, 0)],
  [(49, .iload 4, 2, 0, 0, 0), (51, .istore 7, 2, 0, 0, 0), (53, .iload 7, 2, 0, 0, 0), (55, .ifCond .le 98, 3, 0, 0, 0), (58, .iload 6, 2, 0, 0, 0), (60, .bipush 10, 2, 10, 0, 0), (62, .irem, 1, 0, 0, 0), (63, .istore 8, 2, 0, 0, 0)],
  [(65, .aload_n 0, 1, 0, 0, 0), (66, .getfield 7, 3, 8, 0, 1), (69, .iload_n 3, 1, 0, 0, 0), (70, .iload 7, 2, 0, 0, 0), (72, .iadd, 1, 0, 0, 0), (73, .iaload, 1, 0, 0, 0), (74, .istore 9, 2, 0, 0, 0), (76, .iload 6, 2, 0, 0, 0), (78, .bipush 10, 2, 10, 0, 0)],
  [(80, .idiv, 1, 0, 0, 0), (81, .istore 6, 2, 0, 0, 0), (83, .iload 9, 2, 0, 0, 0), (85, .bipush 63, 2, 63, 0, 0), (87, .if_icmp .eq 29, 3, 0, 0, 0), (90, .iload 9, 2, 0, 0, 0), (92, .bipush 48, 2, 48, 0, 0), (94, .isub, 1, 0, 0, 0), (95, .iload 8, 2, 0, 0, 0)],
  [(97, .if_icmp .eq 19, 3, 0, 0, 0), (100, .iload 9, 2, 0, 0, 0), (102, .bipush 48, 2, 48, 0, 0), (104, .isub, 1, 0, 0, 0), (105, .iload 8, 2, 0, 0, 0), (107, .invokestatic 178, 3, 131, 2, 0), (110, .ifCond .ne 6, 3, 0, 0, 0)],
  [(113, .bipush (-9), 2, 9, 1, 0), (115, .ireturn, 1, 0, 0, 0), (116, .iload 5, 2, 0, 0, 0), (118, .iload 9, 2, 0, 0, 0), (120, .bipush 63, 2, 63, 0, 0), (122, .if_icmp .ne 7, 3, 0, 0, 0), (125, .iconst 1, 1, 1, 0, 0), (126, .goto 18, 3, 0, 0, 0)],
  [(129, .iload 9, 2, 0, 0, 0), (131, .bipush 48, 2, 48, 0, 0), (133, .isub, 1, 0, 0, 0), (134, .iload 8, 2, 0, 0, 0), (136, .if_icmp .ne 7, 3, 0, 0, 0), (139, .iconst 0, 1, 0, 0, 0), (140, .goto 4, 3, 0, 0, 0), (143, .iconst 2, 1, 2, 0, 0)],
  [(144, .iadd, 1, 0, 0, 0), (145, .istore 5, 2, 0, 0, 0), (147, .iinc 7 (-1), 3, 1, 1, 0), (150, .goto (-97), 3, 0, 0, 0), (153, .iload 5, 2, 0, 0, 0), (155, .ireturn, 1, 0, 0, 0)]]
/-- WornSumsModel.manyBy(II)I -/
def pc_133 : List (List (Nat × smI)) := [[(0, .iconst 0, 1, 0, 0, 0), (1, .istore_n 3, 1, 0, 0, 0), (2, .iconst 0, 1, 0, 0, 0), (3, .istore 4, 2, 0, 0, 0), (5, .iload 4, 2, 0, 0, 0), (7, .sipush 1000, 3, 1000, 0, 0), (10, .if_icmp .ge 43, 3, 0, 0, 0), (13, .iload_n 3, 1, 0, 0, 0), (14, .iload_n 2, 1, 0, 0, 0), (15, .ifCond .ne 13, 3, 0, 0, 0)],
  [(18, .aload_n 0, 1, 0, 0, 0), (19, .iload_n 1, 1, 0, 0, 0), (20, .iload 4, 2, 0, 0, 0), (22, .invokevirtual 185, 3, 130, 2, 9), (25, .goto 10, 3, 0, 0, 0), (28, .aload_n 0, 1, 0, 0, 0), (29, .iload_n 1, 1, 0, 0, 0), (30, .iload 4, 2, 0, 0, 0)],
  [(32, .invokevirtual 182, 3, 132, 2, 9), (35, .bipush (-9), 2, 9, 1, 0), (37, .if_icmp .ne 7, 3, 0, 0, 0), (40, .iconst 0, 1, 0, 0, 0), (41, .goto 4, 3, 0, 0, 0), (44, .iconst 1, 1, 1, 0, 0), (45, .iadd, 1, 0, 0, 0), (46, .istore_n 3, 1, 0, 0, 0), (47, .iinc 4 1, 3, 1, 0, 0)],
  [(50, .goto (-45), 3, 0, 0, 0), (53, .iload_n 3, 1, 0, 0, 0), (54, .ireturn, 1, 0, 0, 0)]]
/-- WornSumsModel.findAgreeing(I)V -/
def pc_134 : List (List (Nat × smI)) := [[(0, .iconst 0, 1, 0, 0, 0), (1, .istore_n 2, 1, 0, 0, 0), (2, .iconst 0, 1, 0, 0, 0), (3, .istore_n 3, 1, 0, 0, 0), (4, .iload_n 3, 1, 0, 0, 0), (5, .sipush 1000, 3, 1000, 0, 0), (8, .if_icmp .ge 77, 3, 0, 0, 0), (11, .aload_n 0, 1, 0, 0, 0), (12, .iload_n 1, 1, 0, 0, 0), (13, .iload_n 3, 1, 0, 0, 0), (14, .invokevirtual 182, 3, 132, 2, 9)],
  [(17, .istore 4, 2, 0, 0, 0), (19, .iload 4, 2, 0, 0, 0), (21, .bipush (-9), 2, 9, 1, 0), (23, .if_icmp .ne 8, 3, 0, 0, 0), (26, .bipush (-9), 2, 9, 1, 0), (28, .goto 9, 3, 0, 0, 0), (31, .aload_n 0, 1, 0, 0, 0)],
  [(32, .iload_n 1, 1, 0, 0, 0), (33, .iload_n 3, 1, 0, 0, 0), (34, .invokevirtual 185, 3, 130, 2, 9), (37, .istore 5, 2, 0, 0, 0), (39, .iload 5, 2, 0, 0, 0), (41, .bipush (-9), 2, 9, 1, 0), (43, .if_icmp .eq 36, 3, 0, 0, 0), (46, .aload_n 0, 1, 0, 0, 0), (47, .getfield 29, 3, 8, 9, 1)],
  [(50, .sipush 1000, 3, 1000, 0, 0), (53, .iload_n 1, 1, 0, 0, 0), (54, .imul, 1, 0, 0, 0), (55, .iload_n 2, 1, 0, 0, 0), (56, .iadd, 1, 0, 0, 0), (57, .iload_n 3, 1, 0, 0, 0), (58, .iastore, 1, 0, 0, 0), (59, .aload_n 0, 1, 0, 0, 0), (60, .getfield 32, 3, 8, 10, 1), (63, .sipush 1000, 3, 1000, 0, 0)],
  [(66, .iload_n 1, 1, 0, 0, 0), (67, .imul, 1, 0, 0, 0), (68, .iload_n 2, 1, 0, 0, 0), (69, .iadd, 1, 0, 0, 0), (70, .iload 4, 2, 0, 0, 0), (72, .iload 5, 2, 0, 0, 0), (74, .iadd, 1, 0, 0, 0), (75, .iastore, 1, 0, 0, 0), (76, .iinc 2 1, 3, 1, 0, 0), (79, .iinc 3 1, 3, 1, 0, 0)],
  [(82, .goto (-78), 3, 0, 0, 0), (85, .aload_n 0, 1, 0, 0, 0), (86, .getfield 35, 3, 8, 11, 1), (89, .iload_n 1, 1, 0, 0, 0), (90, .iload_n 2, 1, 0, 0, 0), (91, .iastore, 1, 0, 0, 0), (92, .return_, 1, 0, 0, 0)]]
/-- WornSumsModel.entry(II)I -/
def pc_135 : List (List (Nat × smI)) := [[(0, .aload_n 0, 1, 0, 0, 0), (1, .iload_n 1, 1, 0, 0, 0), (2, .invokevirtual 158, 3, 116, 1, 9), (5, .ifCond .eq 12, 3, 0, 0, 0), (8, .iload_n 2, 1, 0, 0, 0), (9, .iconst 0, 1, 0, 0, 0), (10, .iconst 5, 1, 5, 0, 0), (11, .invokestatic 137, 3, 107, 3, 0), (14, .ifCond .ne 5, 3, 0, 0, 0)],
  [(17, .iconst (-1), 1, 1, 1, 0), (18, .ireturn, 1, 0, 0, 0), (19, .iload_n 2, 1, 0, 0, 0), (20, .iconst 2, 1, 2, 0, 0), (21, .if_icmp .ge 14, 3, 0, 0, 0), (24, .aload_n 0, 1, 0, 0, 0), (25, .getfield 7, 3, 8, 0, 1), (28, .iload_n 1, 1, 0, 0, 0), (29, .iload_n 2, 1, 0, 0, 0), (30, .invokestatic 161, 3, 118, 2, 0)],
  [(33, .iaload, 1, 0, 0, 0), (34, .ireturn, 1, 0, 0, 0), (35, .iload_n 2, 1, 0, 0, 0), (36, .iconst 2, 1, 2, 0, 0), (37, .if_icmp .ne 9, 3, 0, 0, 0), (40, .aload_n 0, 1, 0, 0, 0), (41, .iload_n 1, 1, 0, 0, 0), (42, .invokevirtual 168, 3, 121, 1, 9), (45, .ireturn, 1, 0, 0, 0), (46, .iload_n 2, 1, 0, 0, 0), (47, .iconst 5, 1, 5, 0, 0)],
  [(48, .if_icmp .ge 12, 3, 0, 0, 0), (51, .aload_n 0, 1, 0, 0, 0), (52, .iload_n 1, 1, 0, 0, 0), (53, .iload_n 2, 1, 0, 0, 0), (54, .iconst 3, 1, 3, 0, 0), (55, .isub, 1, 0, 0, 0), (56, .invokevirtual 188, 3, 133, 2, 9), (59, .ireturn, 1, 0, 0, 0), (60, .aload_n 0, 1, 0, 0, 0), (61, .iload_n 1, 1, 0, 0, 0), (62, .invokevirtual 191, 3, 134, 1, 9)],
  [(65, .aload_n 0, 1, 0, 0, 0), (66, .getfield 35, 3, 8, 11, 1), (69, .iload_n 1, 1, 0, 0, 0), (70, .iaload, 1, 0, 0, 0), (71, .ireturn, 1, 0, 0, 0)]]
/-- WornSumsModel.sign(III)I -/
def pc_136 : List (List (Nat × smI)) := [[(0, .aload_n 0, 1, 0, 0, 0), (1, .iload_n 1, 1, 0, 0, 0), (2, .iload_n 2, 1, 0, 0, 0), (3, .iload_n 3, 1, 0, 0, 0), (4, .invokevirtual 165, 3, 119, 3, 9), (7, .ifCond .eq 20, 3, 0, 0, 0), (10, .aload_n 0, 1, 0, 0, 0), (11, .getfield 7, 3, 8, 0, 1), (14, .iload_n 1, 1, 0, 0, 0), (15, .iload_n 2, 1, 0, 0, 0)],
  [(16, .invokestatic 161, 3, 118, 2, 0), (19, .iconst 1, 1, 1, 0, 0), (20, .iadd, 1, 0, 0, 0), (21, .iload_n 3, 1, 0, 0, 0), (22, .iadd, 1, 0, 0, 0), (23, .iaload, 1, 0, 0, 0), (24, .goto 4, 3, 0, 0, 0), (27, .iconst (-1), 1, 1, 1, 0), (28, .ireturn, 1, 0, 0, 0)]]
/-- WornSumsModel.doubt(III)I -/
def pc_137 : List (List (Nat × smI)) := [[(0, .aload_n 0, 1, 0, 0, 0), (1, .iload_n 1, 1, 0, 0, 0), (2, .invokevirtual 158, 3, 116, 1, 9), (5, .ifCond .eq 23, 3, 0, 0, 0), (8, .iload_n 2, 1, 0, 0, 0), (9, .iconst 0, 1, 0, 0, 0), (10, .sipush 999, 3, 999, 0, 0), (13, .invokestatic 137, 3, 107, 3, 0)],
  [(16, .ifCond .eq 12, 3, 0, 0, 0), (19, .iload_n 3, 1, 0, 0, 0), (20, .iconst 0, 1, 0, 0, 0), (21, .iconst 1, 1, 1, 0, 0), (22, .invokestatic 137, 3, 107, 3, 0), (25, .ifCond .ne 5, 3, 0, 0, 0), (28, .iconst (-1), 1, 1, 1, 0), (29, .ireturn, 1, 0, 0, 0), (30, .iload_n 3, 1, 0, 0, 0), (31, .ifCond .ne 12, 3, 0, 0, 0)],
  [(34, .aload_n 0, 1, 0, 0, 0), (35, .iload_n 1, 1, 0, 0, 0), (36, .iload_n 2, 1, 0, 0, 0), (37, .invokevirtual 185, 3, 130, 2, 9), (40, .goto 9, 3, 0, 0, 0), (43, .aload_n 0, 1, 0, 0, 0), (44, .iload_n 1, 1, 0, 0, 0), (45, .iload_n 2, 1, 0, 0, 0), (46, .invokevirtual 182, 3, 132, 2, 9)],
  [(49, .ireturn, 1, 0, 0, 0)]]
/-- WornSumsModel.ranked(III)I -/
def pc_138 : List (List (Nat × smI)) := [[(0, .aload_n 0, 1, 0, 0, 0), (1, .iload_n 1, 1, 0, 0, 0), (2, .invokevirtual 158, 3, 116, 1, 9), (5, .ifCond .eq 16, 3, 0, 0, 0), (8, .iload_n 2, 1, 0, 0, 0), (9, .ifCond .lt 12, 3, 0, 0, 0), (12, .iload_n 3, 1, 0, 0, 0), (13, .iconst 0, 1, 0, 0, 0), (14, .iconst 1, 1, 1, 0, 0), (15, .invokestatic 137, 3, 107, 3, 0)],
  [(18, .ifCond .ne 5, 3, 0, 0, 0), (21, .iconst (-1), 1, 1, 1, 0), (22, .ireturn, 1, 0, 0, 0), (23, .aload_n 0, 1, 0, 0, 0), (24, .iload_n 1, 1, 0, 0, 0), (25, .invokevirtual 191, 3, 134, 1, 9), (28, .sipush 1000, 3, 1000, 0, 0), (31, .iload_n 1, 1, 0, 0, 0)],
  [(32, .imul, 1, 0, 0, 0), (33, .istore 4, 2, 0, 0, 0), (35, .iload 4, 2, 0, 0, 0), (37, .istore 5, 2, 0, 0, 0), (39, .iload 5, 2, 0, 0, 0), (41, .iload 4, 2, 0, 0, 0), (43, .aload_n 0, 1, 0, 0, 0), (44, .getfield 35, 3, 8, 11, 1), (47, .iload_n 1, 1, 0, 0, 0)],
  [(48, .iaload, 1, 0, 0, 0), (49, .iadd, 1, 0, 0, 0), (50, .if_icmp .ge 115, 3, 0, 0, 0), (53, .iconst 0, 1, 0, 0, 0), (54, .istore 6, 2, 0, 0, 0), (56, .iload 4, 2, 0, 0, 0), (58, .istore 7, 2, 0, 0, 0), (60, .iload 7, 2, 0, 0, 0), (62, .iload 4, 2, 0, 0, 0)],
  [(64, .aload_n 0, 1, 0, 0, 0), (65, .getfield 35, 3, 8, 11, 1), (68, .iload_n 1, 1, 0, 0, 0), (69, .iaload, 1, 0, 0, 0), (70, .iadd, 1, 0, 0, 0), (71, .if_icmp .ge 60, 3, 0, 0, 0), (74, .iload 6, 2, 0, 0, 0), (76, .aload_n 0, 1, 0, 0, 0), (77, .getfield 32, 3, 8, 10, 1)],
  [(80, .iload 7, 2, 0, 0, 0), (82, .iaload, 1, 0, 0, 0), (83, .aload_n 0, 1, 0, 0, 0), (84, .getfield 32, 3, 8, 10, 1), (87, .iload 5, 2, 0, 0, 0), (89, .iaload, 1, 0, 0, 0), (90, .if_icmp .lt 27, 3, 0, 0, 0), (93, .aload_n 0, 1, 0, 0, 0), (94, .getfield 32, 3, 8, 10, 1)],
  [(97, .iload 7, 2, 0, 0, 0), (99, .iaload, 1, 0, 0, 0), (100, .aload_n 0, 1, 0, 0, 0), (101, .getfield 32, 3, 8, 10, 1), (104, .iload 5, 2, 0, 0, 0), (106, .iaload, 1, 0, 0, 0), (107, .if_icmp .ne 14, 3, 0, 0, 0), (110, .iload 7, 2, 0, 0, 0)],
  [(112, .iload 5, 2, 0, 0, 0), (114, .if_icmp .ge 7, 3, 0, 0, 0), (117, .iconst 1, 1, 1, 0, 0), (118, .goto 4, 3, 0, 0, 0), (121, .iconst 0, 1, 0, 0, 0), (122, .iadd, 1, 0, 0, 0), (123, .istore 6, 2, 0, 0, 0), (125, .iinc 7 1, 3, 1, 0, 0)],
  [(128, .goto (-68), 3, 0, 0, 0), (131, .iload 6, 2, 0, 0, 0), (133, .iload_n 2, 1, 0, 0, 0), (134, .if_icmp .ne 25, 3, 0, 0, 0), (137, .iload_n 3, 1, 0, 0, 0), (138, .ifCond .ne 13, 3, 0, 0, 0), (141, .aload_n 0, 1, 0, 0, 0), (142, .getfield 29, 3, 8, 9, 1)],
  [(145, .iload 5, 2, 0, 0, 0), (147, .iaload, 1, 0, 0, 0), (148, .goto 10, 3, 0, 0, 0), (151, .aload_n 0, 1, 0, 0, 0), (152, .getfield 32, 3, 8, 10, 1), (155, .iload 5, 2, 0, 0, 0), (157, .iaload, 1, 0, 0, 0), (158, .ireturn, 1, 0, 0, 0), (159, .iinc 5 1, 3, 1, 0, 0)],
  [(162, .goto (-123), 3, 0, 0, 0), (165, .bipush (-9), 2, 9, 1, 0), (167, .ireturn, 1, 0, 0, 0)]]
/-- WornSumsModel.word(II)I -/
def pc_139 : List (List (Nat × smI)) := [[(0, .iload_n 1, 1, 0, 0, 0), (1, .iconst 0, 1, 0, 0, 0), (2, .sipush 999, 3, 999, 0, 0), (5, .invokestatic 137, 3, 107, 3, 0), (8, .ifCond .eq 8, 3, 0, 0, 0), (11, .iload_n 2, 1, 0, 0, 0), (12, .iconst (-1), 1, 1, 1, 0), (13, .if_icmp .ge 5, 3, 0, 0, 0)],
  [(16, .iconst (-1), 1, 1, 1, 0), (17, .ireturn, 1, 0, 0, 0), (18, .aload_n 0, 1, 0, 0, 0), (19, .iload_n 1, 1, 0, 0, 0), (20, .invokevirtual 175, 3, 129, 1, 9), (23, .iload_n 2, 1, 0, 0, 0), (24, .iconst (-1), 1, 1, 1, 0), (25, .if_icmp .ne 10, 3, 0, 0, 0), (28, .aload_n 0, 1, 0, 0, 0), (29, .getfield 124, 3, 8, 8, 0)],
  [(32, .goto 22, 3, 0, 0, 0), (35, .iload_n 2, 1, 0, 0, 0), (36, .aload_n 0, 1, 0, 0, 0), (37, .getfield 124, 3, 8, 8, 0), (40, .if_icmp .ge 12, 3, 0, 0, 0), (43, .aload_n 0, 1, 0, 0, 0), (44, .getfield 26, 3, 8, 7, 1), (47, .iload_n 2, 1, 0, 0, 0)],
  [(48, .iaload, 1, 0, 0, 0), (49, .goto 5, 3, 0, 0, 0), (52, .bipush (-9), 2, 9, 1, 0), (54, .ireturn, 1, 0, 0, 0)]]
/-- WornSumsModel.findAll()V -/
def pc_140 : List (List (Nat × smI)) := [[(0, .iconst 0, 1, 0, 0, 0), (1, .istore_n 1, 1, 0, 0, 0), (2, .iload_n 1, 1, 0, 0, 0), (3, .aload_n 0, 1, 0, 0, 0), (4, .getfield 7, 3, 8, 0, 1), (7, .iconst 0, 1, 0, 0, 0), (8, .iaload, 1, 0, 0, 0), (9, .if_icmp .ge 14, 3, 0, 0, 0), (12, .aload_n 0, 1, 0, 0, 0), (13, .iload_n 1, 1, 0, 0, 0), (14, .invokevirtual 191, 3, 134, 1, 9)],
  [(17, .iinc 1 1, 3, 1, 0, 0), (20, .goto (-18), 3, 0, 0, 0), (23, .return_, 1, 0, 0, 0)]]
/-- WornSumsModel.findFree()I -/
def pc_141 : List (List (Nat × smI)) := [[(0, .iconst 0, 1, 0, 0, 0), (1, .istore_n 1, 1, 0, 0, 0), (2, .iconst 0, 1, 0, 0, 0), (3, .istore_n 2, 1, 0, 0, 0), (4, .iload_n 2, 1, 0, 0, 0), (5, .aload_n 0, 1, 0, 0, 0), (6, .getfield 7, 3, 8, 0, 1), (9, .iconst 0, 1, 0, 0, 0), (10, .iaload, 1, 0, 0, 0), (11, .if_icmp .ge 102, 3, 0, 0, 0), (14, .ldc 194, 2, 100000, 0, 0)],
  [(16, .istore_n 3, 1, 0, 0, 0), (17, .sipush 1000, 3, 1000, 0, 0), (20, .iload_n 2, 1, 0, 0, 0), (21, .imul, 1, 0, 0, 0), (22, .istore 4, 2, 0, 0, 0), (24, .iload 4, 2, 0, 0, 0), (26, .sipush 1000, 3, 1000, 0, 0), (29, .iload_n 2, 1, 0, 0, 0), (30, .imul, 1, 0, 0, 0), (31, .aload_n 0, 1, 0, 0, 0)],
  [(32, .getfield 35, 3, 8, 11, 1), (35, .iload_n 2, 1, 0, 0, 0), (36, .iaload, 1, 0, 0, 0), (37, .iadd, 1, 0, 0, 0), (38, .if_icmp .ge 65, 3, 0, 0, 0), (41, .aload_n 0, 1, 0, 0, 0), (42, .getfield 44, 3, 8, 14, 1), (45, .iload_n 2, 1, 0, 0, 0), (46, .aload_n 0, 1, 0, 0, 0), (47, .getfield 32, 3, 8, 10, 1)],
  [(50, .iload 4, 2, 0, 0, 0), (52, .iaload, 1, 0, 0, 0), (53, .iload_n 3, 1, 0, 0, 0), (54, .if_icmp .ge 13, 3, 0, 0, 0), (57, .aload_n 0, 1, 0, 0, 0), (58, .getfield 29, 3, 8, 9, 1), (61, .iload 4, 2, 0, 0, 0), (63, .iaload, 1, 0, 0, 0)],
  [(64, .goto 9, 3, 0, 0, 0), (67, .aload_n 0, 1, 0, 0, 0), (68, .getfield 44, 3, 8, 14, 1), (71, .iload_n 2, 1, 0, 0, 0), (72, .iaload, 1, 0, 0, 0), (73, .iastore, 1, 0, 0, 0), (74, .aload_n 0, 1, 0, 0, 0), (75, .getfield 32, 3, 8, 10, 1), (78, .iload 4, 2, 0, 0, 0)],
  [(80, .iaload, 1, 0, 0, 0), (81, .iload_n 3, 1, 0, 0, 0), (82, .if_icmp .ge 13, 3, 0, 0, 0), (85, .aload_n 0, 1, 0, 0, 0), (86, .getfield 32, 3, 8, 10, 1), (89, .iload 4, 2, 0, 0, 0), (91, .iaload, 1, 0, 0, 0), (92, .goto 4, 3, 0, 0, 0), (95, .iload_n 3, 1, 0, 0, 0)],
  [(96, .istore_n 3, 1, 0, 0, 0), (97, .iinc 4 1, 3, 1, 0, 0), (100, .goto (-76), 3, 0, 0, 0), (103, .iload_n 1, 1, 0, 0, 0), (104, .iload_n 3, 1, 0, 0, 0), (105, .iadd, 1, 0, 0, 0), (106, .istore_n 1, 1, 0, 0, 0), (107, .iinc 2 1, 3, 1, 0, 0), (110, .goto (-106), 3, 0, 0, 0)],
  [(113, .iload_n 1, 1, 0, 0, 0), (114, .ldc 194, 2, 100000, 0, 0), (116, .if_icmp .lt 8, 3, 0, 0, 0), (119, .bipush (-9), 2, 9, 1, 0), (121, .goto 4, 3, 0, 0, 0), (124, .iload_n 1, 1, 0, 0, 0), (125, .ireturn, 1, 0, 0, 0)]]
/-- WornSumsModel.leastAt(II)I -/
def pc_142 : List (List (Nat × smI)) := [[(0, .iload_n 1, 1, 0, 0, 0), (1, .aload_n 0, 1, 0, 0, 0), (2, .getfield 7, 3, 8, 0, 1), (5, .iconst 0, 1, 0, 0, 0), (6, .iaload, 1, 0, 0, 0), (7, .if_icmp .ne 14, 3, 0, 0, 0), (10, .iload_n 2, 1, 0, 0, 0), (11, .ifCond .ne 7, 3, 0, 0, 0), (14, .iconst 0, 1, 0, 0, 0), (15, .goto 5, 3, 0, 0, 0)],
  [(18, .ldc 194, 2, 100000, 0, 0), (20, .ireturn, 1, 0, 0, 0), (21, .iload_n 1, 1, 0, 0, 0), (22, .iconst 3, 1, 3, 0, 0), (23, .if_icmp .ge 18, 3, 0, 0, 0), (26, .aload_n 0, 1, 0, 0, 0), (27, .getfield 38, 3, 8, 12, 1), (30, .sipush 5995, 3, 5995, 0, 0)],
  [(33, .iload_n 1, 1, 0, 0, 0), (34, .imul, 1, 0, 0, 0), (35, .iload_n 2, 1, 0, 0, 0), (36, .iadd, 1, 0, 0, 0), (37, .iaload, 1, 0, 0, 0), (38, .goto 17, 3, 0, 0, 0), (41, .aload_n 0, 1, 0, 0, 0), (42, .getfield 41, 3, 8, 13, 1), (45, .sipush 5995, 3, 5995, 0, 0)],
  [(48, .iload_n 1, 1, 0, 0, 0), (49, .iconst 3, 1, 3, 0, 0), (50, .isub, 1, 0, 0, 0), (51, .imul, 1, 0, 0, 0), (52, .iload_n 2, 1, 0, 0, 0), (53, .iadd, 1, 0, 0, 0), (54, .iaload, 1, 0, 0, 0), (55, .ireturn, 1, 0, 0, 0)]]
/-- WornSumsModel.layLeast(II)V -/
def pc_143 : List (List (Nat × smI)) := [[(0, .ldc 194, 2, 100000, 0, 0), (2, .istore_n 3, 1, 0, 0, 0), (3, .sipush 1000, 3, 1000, 0, 0), (6, .iload_n 1, 1, 0, 0, 0), (7, .imul, 1, 0, 0, 0), (8, .istore 4, 2, 0, 0, 0), (10, .iload 4, 2, 0, 0, 0), (12, .istore 5, 2, 0, 0, 0), (14, .iload 5, 2, 0, 0, 0)],
  [(16, .iload 4, 2, 0, 0, 0), (18, .aload_n 0, 1, 0, 0, 0), (19, .getfield 35, 3, 8, 11, 1), (22, .iload_n 1, 1, 0, 0, 0), (23, .iaload, 1, 0, 0, 0), (24, .iadd, 1, 0, 0, 0), (25, .if_icmp .ge 59, 3, 0, 0, 0), (28, .aload_n 0, 1, 0, 0, 0), (29, .getfield 29, 3, 8, 9, 1)],
  [(32, .iload 5, 2, 0, 0, 0), (34, .iaload, 1, 0, 0, 0), (35, .iload_n 2, 1, 0, 0, 0), (36, .if_icmp .gt 48, 3, 0, 0, 0), (39, .aload_n 0, 1, 0, 0, 0), (40, .iload_n 1, 1, 0, 0, 0), (41, .iconst 1, 1, 1, 0, 0), (42, .iadd, 1, 0, 0, 0), (43, .iload_n 2, 1, 0, 0, 0), (44, .aload_n 0, 1, 0, 0, 0), (45, .getfield 29, 3, 8, 9, 1)],
  [(48, .iload 5, 2, 0, 0, 0), (50, .iaload, 1, 0, 0, 0), (51, .isub, 1, 0, 0, 0), (52, .invokevirtual 195, 3, 142, 2, 9), (55, .aload_n 0, 1, 0, 0, 0), (56, .getfield 32, 3, 8, 10, 1), (59, .iload 5, 2, 0, 0, 0), (61, .iaload, 1, 0, 0, 0), (62, .iadd, 1, 0, 0, 0), (63, .istore 6, 2, 0, 0, 0)],
  [(65, .iload 6, 2, 0, 0, 0), (67, .iload_n 3, 1, 0, 0, 0), (68, .if_icmp .ge 8, 3, 0, 0, 0), (71, .iload 6, 2, 0, 0, 0), (73, .goto 4, 3, 0, 0, 0), (76, .iload_n 3, 1, 0, 0, 0), (77, .istore_n 3, 1, 0, 0, 0), (78, .iinc 5 1, 3, 1, 0, 0)],
  [(81, .goto (-67), 3, 0, 0, 0), (84, .iload_n 1, 1, 0, 0, 0), (85, .iconst 3, 1, 3, 0, 0), (86, .if_icmp .ge 19, 3, 0, 0, 0), (89, .aload_n 0, 1, 0, 0, 0), (90, .getfield 38, 3, 8, 12, 1), (93, .sipush 5995, 3, 5995, 0, 0)],
  [(96, .iload_n 1, 1, 0, 0, 0), (97, .imul, 1, 0, 0, 0), (98, .iload_n 2, 1, 0, 0, 0), (99, .iadd, 1, 0, 0, 0), (100, .iload_n 3, 1, 0, 0, 0), (101, .iastore, 1, 0, 0, 0), (102, .goto 18, 3, 0, 0, 0), (105, .aload_n 0, 1, 0, 0, 0), (106, .getfield 41, 3, 8, 13, 1), (109, .sipush 5995, 3, 5995, 0, 0)],
  [(112, .iload_n 1, 1, 0, 0, 0), (113, .iconst 3, 1, 3, 0, 0), (114, .isub, 1, 0, 0, 0), (115, .imul, 1, 0, 0, 0), (116, .iload_n 2, 1, 0, 0, 0), (117, .iadd, 1, 0, 0, 0), (118, .iload_n 3, 1, 0, 0, 0), (119, .iastore, 1, 0, 0, 0), (120, .return_, 1, 0, 0, 0)]]
/-- WornSumsModel.findSum()I -/
def pc_144 : List (List (Nat × smI)) := [[(0, .aload_n 0, 1, 0, 0, 0), (1, .getfield 7, 3, 8, 0, 1), (4, .iconst 2, 1, 2, 0, 0), (5, .iaload, 1, 0, 0, 0), (6, .istore_n 1, 1, 0, 0, 0), (7, .iload_n 1, 1, 0, 0, 0), (8, .sipush 5995, 3, 5995, 0, 0), (11, .if_icmp .lt 6, 3, 0, 0, 0), (14, .bipush (-9), 2, 9, 1, 0)],
  [(16, .ireturn, 1, 0, 0, 0), (17, .aload_n 0, 1, 0, 0, 0), (18, .getfield 7, 3, 8, 0, 1), (21, .iconst 0, 1, 0, 0, 0), (22, .iaload, 1, 0, 0, 0), (23, .iconst 1, 1, 1, 0, 0), (24, .isub, 1, 0, 0, 0), (25, .istore_n 2, 1, 0, 0, 0), (26, .iload_n 2, 1, 0, 0, 0), (27, .ifCond .lt 28, 3, 0, 0, 0), (30, .iconst 0, 1, 0, 0, 0), (31, .istore_n 3, 1, 0, 0, 0)],
  [(32, .iload_n 3, 1, 0, 0, 0), (33, .iload_n 1, 1, 0, 0, 0), (34, .if_icmp .gt 15, 3, 0, 0, 0), (37, .aload_n 0, 1, 0, 0, 0), (38, .iload_n 2, 1, 0, 0, 0), (39, .iload_n 3, 1, 0, 0, 0), (40, .invokevirtual 207, 3, 143, 2, 9), (43, .iinc 3 1, 3, 1, 0, 0), (46, .goto (-14), 3, 0, 0, 0)],
  [(49, .iinc 2 (-1), 3, 1, 1, 0), (52, .goto (-26), 3, 0, 0, 0), (55, .aload_n 0, 1, 0, 0, 0), (56, .iconst 0, 1, 0, 0, 0), (57, .iload_n 1, 1, 0, 0, 0), (58, .invokevirtual 195, 3, 142, 2, 9), (61, .istore_n 2, 1, 0, 0, 0), (62, .iload_n 2, 1, 0, 0, 0), (63, .ldc 194, 2, 100000, 0, 0)],
  [(65, .if_icmp .lt 6, 3, 0, 0, 0), (68, .bipush (-9), 2, 9, 1, 0), (70, .ireturn, 1, 0, 0, 0), (71, .iload_n 1, 1, 0, 0, 0), (72, .istore_n 3, 1, 0, 0, 0), (73, .iconst 0, 1, 0, 0, 0), (74, .istore 4, 2, 0, 0, 0), (76, .iload 4, 2, 0, 0, 0), (78, .aload_n 0, 1, 0, 0, 0), (79, .getfield 7, 3, 8, 0, 1)],
  [(82, .iconst 0, 1, 0, 0, 0), (83, .iaload, 1, 0, 0, 0), (84, .if_icmp .ge 93, 3, 0, 0, 0), (87, .sipush 1000, 3, 1000, 0, 0), (90, .iload 4, 2, 0, 0, 0), (92, .imul, 1, 0, 0, 0), (93, .istore 5, 2, 0, 0, 0), (95, .aload_n 0, 1, 0, 0, 0)],
  [(96, .getfield 29, 3, 8, 9, 1), (99, .iload 5, 2, 0, 0, 0), (101, .iaload, 1, 0, 0, 0), (102, .iload_n 3, 1, 0, 0, 0), (103, .if_icmp .gt 38, 3, 0, 0, 0), (106, .aload_n 0, 1, 0, 0, 0), (107, .iload 4, 2, 0, 0, 0), (109, .iconst 1, 1, 1, 0, 0), (110, .iadd, 1, 0, 0, 0), (111, .iload_n 3, 1, 0, 0, 0)],
  [(112, .aload_n 0, 1, 0, 0, 0), (113, .getfield 29, 3, 8, 9, 1), (116, .iload 5, 2, 0, 0, 0), (118, .iaload, 1, 0, 0, 0), (119, .isub, 1, 0, 0, 0), (120, .invokevirtual 195, 3, 142, 2, 9), (123, .aload_n 0, 1, 0, 0, 0), (124, .getfield 32, 3, 8, 10, 1), (127, .iload 5, 2, 0, 0, 0)],
  [(129, .iaload, 1, 0, 0, 0), (130, .iadd, 1, 0, 0, 0), (131, .aload_n 0, 1, 0, 0, 0), (132, .iload 4, 2, 0, 0, 0), (134, .iload_n 3, 1, 0, 0, 0), (135, .invokevirtual 195, 3, 142, 2, 9), (138, .if_icmp .eq 9, 3, 0, 0, 0), (141, .iinc 5 1, 3, 1, 0, 0)],
  [(144, .goto (-49), 3, 0, 0, 0), (147, .aload_n 0, 1, 0, 0, 0), (148, .getfield 44, 3, 8, 14, 1), (151, .iload 4, 2, 0, 0, 0), (153, .aload_n 0, 1, 0, 0, 0), (154, .getfield 29, 3, 8, 9, 1), (157, .iload 5, 2, 0, 0, 0), (159, .iaload, 1, 0, 0, 0)],
  [(160, .iastore, 1, 0, 0, 0), (161, .iload_n 3, 1, 0, 0, 0), (162, .aload_n 0, 1, 0, 0, 0), (163, .getfield 29, 3, 8, 9, 1), (166, .iload 5, 2, 0, 0, 0), (168, .iaload, 1, 0, 0, 0), (169, .isub, 1, 0, 0, 0), (170, .istore_n 3, 1, 0, 0, 0), (171, .iinc 4 1, 3, 1, 0, 0), (174, .goto (-98), 3, 0, 0, 0)],
  [(177, .iload_n 2, 1, 0, 0, 0), (178, .ireturn, 1, 0, 0, 0)]]
/-- WornSumsModel.findLeast()I -/
def pc_145 : List (List (Nat × smI)) := [[(0, .aload_n 0, 1, 0, 0, 0), (1, .invokevirtual 198, 3, 140, 0, 9), (4, .aload_n 0, 1, 0, 0, 0), (5, .getfield 7, 3, 8, 0, 1), (8, .iconst 2, 1, 2, 0, 0), (9, .iaload, 1, 0, 0, 0), (10, .bipush (-9), 2, 9, 1, 0), (12, .if_icmp .ne 10, 3, 0, 0, 0), (15, .aload_n 0, 1, 0, 0, 0)],
  [(16, .invokevirtual 201, 3, 141, 0, 9), (19, .goto 7, 3, 0, 0, 0), (22, .aload_n 0, 1, 0, 0, 0), (23, .invokevirtual 204, 3, 144, 0, 9), (26, .ireturn, 1, 0, 0, 0)]]
/-- WornSumsModel.least(I)I -/
def pc_146 : List (List (Nat × smI)) := [[(0, .iload_n 1, 1, 0, 0, 0), (1, .iconst (-1), 1, 1, 1, 0), (2, .if_icmp .eq 13, 3, 0, 0, 0), (5, .aload_n 0, 1, 0, 0, 0), (6, .iload_n 1, 1, 0, 0, 0), (7, .invokevirtual 158, 3, 116, 1, 9), (10, .ifCond .ne 5, 3, 0, 0, 0), (13, .iconst (-1), 1, 1, 1, 0), (14, .ireturn, 1, 0, 0, 0), (15, .aload_n 0, 1, 0, 0, 0)],
  [(16, .invokevirtual 211, 3, 145, 0, 9), (19, .istore_n 2, 1, 0, 0, 0), (20, .iload_n 2, 1, 0, 0, 0), (21, .bipush (-9), 2, 9, 1, 0), (23, .if_icmp .eq 8, 3, 0, 0, 0), (26, .iload_n 1, 1, 0, 0, 0), (27, .iconst (-1), 1, 1, 1, 0), (28, .if_icmp .ne 7, 3, 0, 0, 0), (31, .iload_n 2, 1, 0, 0, 0)],
  [(32, .goto 9, 3, 0, 0, 0), (35, .aload_n 0, 1, 0, 0, 0), (36, .getfield 44, 3, 8, 14, 1), (39, .iload_n 1, 1, 0, 0, 0), (40, .iaload, 1, 0, 0, 0), (41, .ireturn, 1, 0, 0, 0)]]
/-- WornSumsModel.isAltered()Z -/
def pc_147 : List (List (Nat × smI)) := [[(0, .iconst 0, 1, 0, 0, 0), (1, .istore_n 1, 1, 0, 0, 0), (2, .iconst 0, 1, 0, 0, 0), (3, .istore_n 2, 1, 0, 0, 0), (4, .iload_n 2, 1, 0, 0, 0), (5, .aload_n 0, 1, 0, 0, 0), (6, .getfield 7, 3, 8, 0, 1), (9, .iconst 0, 1, 0, 0, 0), (10, .iaload, 1, 0, 0, 0), (11, .if_icmp .ge 28, 3, 0, 0, 0), (14, .iload_n 1, 1, 0, 0, 0), (15, .ifCond .ne 12, 3, 0, 0, 0)],
  [(18, .aload_n 0, 1, 0, 0, 0), (19, .getfield 35, 3, 8, 11, 1), (22, .iload_n 2, 1, 0, 0, 0), (23, .iaload, 1, 0, 0, 0), (24, .ifCond .ne 7, 3, 0, 0, 0), (27, .iconst 1, 1, 1, 0, 0), (28, .goto 4, 3, 0, 0, 0), (31, .iconst 0, 1, 0, 0, 0)],
  [(32, .istore_n 1, 1, 0, 0, 0), (33, .iinc 2 1, 3, 1, 0, 0), (36, .goto (-32), 3, 0, 0, 0), (39, .iload_n 1, 1, 0, 0, 0), (40, .ireturn, 1, 0, 0, 1)]]
/-- WornSumsModel.addOther(I)V -/
def pc_148 : List (List (Nat × smI)) := [[(0, .sipush 1000, 3, 1000, 0, 0), (3, .iload_n 1, 1, 0, 0, 0), (4, .imul, 1, 0, 0, 0), (5, .istore_n 2, 1, 0, 0, 0), (6, .iconst 0, 1, 0, 0, 0), (7, .istore_n 3, 1, 0, 0, 0), (8, .iload_n 3, 1, 0, 0, 0), (9, .sipush 5995, 3, 5995, 0, 0), (12, .if_icmp .ge 74, 3, 0, 0, 0), (15, .iconst 0, 1, 0, 0, 0)],
  [(16, .istore 4, 2, 0, 0, 0), (18, .iload_n 2, 1, 0, 0, 0), (19, .istore 5, 2, 0, 0, 0), (21, .iload 5, 2, 0, 0, 0), (23, .iload_n 2, 1, 0, 0, 0), (24, .aload_n 0, 1, 0, 0, 0), (25, .getfield 35, 3, 8, 11, 1), (28, .iload_n 1, 1, 0, 0, 0), (29, .iaload, 1, 0, 0, 0), (30, .iadd, 1, 0, 0, 0), (31, .if_icmp .ge 41, 3, 0, 0, 0)],
  [(34, .aload_n 0, 1, 0, 0, 0), (35, .getfield 29, 3, 8, 9, 1), (38, .iload 5, 2, 0, 0, 0), (40, .iaload, 1, 0, 0, 0), (41, .iload_n 3, 1, 0, 0, 0), (42, .if_icmp .gt 30, 3, 0, 0, 0), (45, .iload 4, 2, 0, 0, 0), (47, .ifCond .ne 25, 3, 0, 0, 0)],
  [(50, .aload_n 0, 1, 0, 0, 0), (51, .getfield 47, 3, 8, 15, 1), (54, .iload_n 3, 1, 0, 0, 0), (55, .aload_n 0, 1, 0, 0, 0), (56, .getfield 29, 3, 8, 9, 1), (59, .iload 5, 2, 0, 0, 0), (61, .iaload, 1, 0, 0, 0), (62, .isub, 1, 0, 0, 0), (63, .baload, 1, 0, 0, 0)],
  [(64, .istore 4, 2, 0, 0, 0), (66, .iinc 5 1, 3, 1, 0, 0), (69, .goto (-48), 3, 0, 0, 0), (72, .aload_n 0, 1, 0, 0, 0), (73, .getfield 50, 3, 8, 16, 1), (76, .iload_n 3, 1, 0, 0, 0), (77, .iload 4, 2, 0, 0, 0), (79, .bastore, 1, 0, 0, 0)],
  [(80, .iinc 3 1, 3, 1, 0, 0), (83, .goto (-75), 3, 0, 0, 0), (86, .iconst 0, 1, 0, 0, 0), (87, .istore_n 3, 1, 0, 0, 0), (88, .iload_n 3, 1, 0, 0, 0), (89, .sipush 5995, 3, 5995, 0, 0), (92, .if_icmp .ge 21, 3, 0, 0, 0), (95, .aload_n 0, 1, 0, 0, 0)],
  [(96, .getfield 47, 3, 8, 15, 1), (99, .iload_n 3, 1, 0, 0, 0), (100, .aload_n 0, 1, 0, 0, 0), (101, .getfield 50, 3, 8, 16, 1), (104, .iload_n 3, 1, 0, 0, 0), (105, .baload, 1, 0, 0, 0), (106, .bastore, 1, 0, 0, 0), (107, .iinc 3 1, 3, 1, 0, 0), (110, .goto (-22), 3, 0, 0, 0)],
  [(113, .return_, 1, 0, 0, 0)]]
/-- WornSumsModel.findOthers(I)V -/
def pc_149 : List (List (Nat × smI)) := [[(0, .iconst 0, 1, 0, 0, 0), (1, .istore_n 2, 1, 0, 0, 0), (2, .iload_n 2, 1, 0, 0, 0), (3, .sipush 5995, 3, 5995, 0, 0), (6, .if_icmp .ge 24, 3, 0, 0, 0), (9, .aload_n 0, 1, 0, 0, 0), (10, .getfield 47, 3, 8, 15, 1), (13, .iload_n 2, 1, 0, 0, 0), (14, .iload_n 2, 1, 0, 0, 0), (15, .ifCond .ne 7, 3, 0, 0, 0)],
  [(18, .iconst 1, 1, 1, 0, 0), (19, .goto 4, 3, 0, 0, 0), (22, .iconst 0, 1, 0, 0, 0), (23, .bastore, 1, 0, 0, 0), (24, .iinc 2 1, 3, 1, 0, 0), (27, .goto (-25), 3, 0, 0, 0), (30, .iconst 0, 1, 0, 0, 0), (31, .istore_n 2, 1, 0, 0, 0)],
  [(32, .iload_n 2, 1, 0, 0, 0), (33, .aload_n 0, 1, 0, 0, 0), (34, .getfield 7, 3, 8, 0, 1), (37, .iconst 0, 1, 0, 0, 0), (38, .iaload, 1, 0, 0, 0), (39, .if_icmp .ge 19, 3, 0, 0, 0), (42, .iload_n 2, 1, 0, 0, 0), (43, .iload_n 1, 1, 0, 0, 0), (44, .if_icmp .eq 8, 3, 0, 0, 0), (47, .aload_n 0, 1, 0, 0, 0)],
  [(48, .iload_n 2, 1, 0, 0, 0), (49, .invokevirtual 214, 3, 148, 1, 9), (52, .iinc 2 1, 3, 1, 0, 0), (55, .goto (-23), 3, 0, 0, 0), (58, .return_, 1, 0, 0, 0)]]
/-- WornSumsModel.sure(I)I -/
def pc_150 : List (List (Nat × smI)) := [[(0, .aload_n 0, 1, 0, 0, 0), (1, .iload_n 1, 1, 0, 0, 0), (2, .invokevirtual 158, 3, 116, 1, 9), (5, .ifCond .ne 5, 3, 0, 0, 0), (8, .iconst (-1), 1, 1, 1, 0), (9, .ireturn, 1, 0, 0, 0), (10, .aload_n 0, 1, 0, 0, 0), (11, .invokevirtual 198, 3, 140, 0, 9), (14, .sipush 1000, 3, 1000, 0, 0)],
  [(17, .iload_n 1, 1, 0, 0, 0), (18, .imul, 1, 0, 0, 0), (19, .istore_n 2, 1, 0, 0, 0), (20, .aload_n 0, 1, 0, 0, 0), (21, .getfield 7, 3, 8, 0, 1), (24, .iconst 2, 1, 2, 0, 0), (25, .iaload, 1, 0, 0, 0), (26, .istore_n 3, 1, 0, 0, 0), (27, .iload_n 3, 1, 0, 0, 0), (28, .bipush (-9), 2, 9, 1, 0), (30, .if_icmp .ne 32, 3, 0, 0, 0)],
  [(33, .aload_n 0, 1, 0, 0, 0), (34, .invokevirtual 217, 3, 147, 0, 9), (37, .ifCond .ne 13, 3, 0, 0, 0), (40, .aload_n 0, 1, 0, 0, 0), (41, .getfield 35, 3, 8, 11, 1), (44, .iload_n 1, 1, 0, 0, 0), (45, .iaload, 1, 0, 0, 0), (46, .iconst 1, 1, 1, 0, 0), (47, .if_icmp .eq 8, 3, 0, 0, 0)],
  [(50, .bipush (-9), 2, 9, 1, 0), (52, .goto 9, 3, 0, 0, 0), (55, .aload_n 0, 1, 0, 0, 0), (56, .getfield 29, 3, 8, 9, 1), (59, .iload_n 2, 1, 0, 0, 0), (60, .iaload, 1, 0, 0, 0), (61, .ireturn, 1, 0, 0, 0), (62, .aload_n 0, 1, 0, 0, 0), (63, .iload_n 1, 1, 0, 0, 0)],
  [(64, .invokevirtual 221, 3, 149, 1, 9), (67, .iconst 0, 1, 0, 0, 0), (68, .istore 4, 2, 0, 0, 0), (70, .bipush (-9), 2, 9, 1, 0), (72, .istore 5, 2, 0, 0, 0), (74, .iload_n 2, 1, 0, 0, 0), (75, .istore 6, 2, 0, 0, 0), (77, .iload 6, 2, 0, 0, 0), (79, .iload_n 2, 1, 0, 0, 0)],
  [(80, .aload_n 0, 1, 0, 0, 0), (81, .getfield 35, 3, 8, 11, 1), (84, .iload_n 1, 1, 0, 0, 0), (85, .iaload, 1, 0, 0, 0), (86, .iadd, 1, 0, 0, 0), (87, .if_icmp .ge 54, 3, 0, 0, 0), (90, .iload_n 3, 1, 0, 0, 0), (91, .aload_n 0, 1, 0, 0, 0), (92, .getfield 29, 3, 8, 9, 1), (95, .iload 6, 2, 0, 0, 0)],
  [(97, .iaload, 1, 0, 0, 0), (98, .isub, 1, 0, 0, 0), (99, .istore 7, 2, 0, 0, 0), (101, .iload 7, 2, 0, 0, 0), (103, .iconst 0, 1, 0, 0, 0), (104, .sipush 5994, 3, 5994, 0, 0), (107, .invokestatic 137, 3, 107, 3, 0), (110, .ifCond .eq 25, 3, 0, 0, 0)],
  [(113, .aload_n 0, 1, 0, 0, 0), (114, .getfield 47, 3, 8, 15, 1), (117, .iload 7, 2, 0, 0, 0), (119, .baload, 1, 0, 0, 0), (120, .ifCond .eq 15, 3, 0, 0, 0), (123, .iinc 4 1, 3, 1, 0, 0), (126, .aload_n 0, 1, 0, 0, 0), (127, .getfield 29, 3, 8, 9, 1)],
  [(130, .iload 6, 2, 0, 0, 0), (132, .iaload, 1, 0, 0, 0), (133, .istore 5, 2, 0, 0, 0), (135, .iinc 6 1, 3, 1, 0, 0), (138, .goto (-61), 3, 0, 0, 0), (141, .iload 4, 2, 0, 0, 0), (143, .iconst 1, 1, 1, 0, 0)],
  [(144, .if_icmp .ne 8, 3, 0, 0, 0), (147, .iload 5, 2, 0, 0, 0), (149, .goto 5, 3, 0, 0, 0), (152, .bipush (-9), 2, 9, 1, 0), (154, .ireturn, 1, 0, 0, 0)]]
/-- WornSumsModel.mostAt(II)I -/
def pc_151 : List (List (Nat × smI)) := [[(0, .iconst 0, 1, 0, 0, 0), (1, .istore_n 3, 1, 0, 0, 0), (2, .iload_n 3, 1, 0, 0, 0), (3, .bipush 26, 2, 26, 0, 0), (5, .if_icmp .ge 16, 3, 0, 0, 0), (8, .aload_n 0, 1, 0, 0, 0), (9, .getfield 53, 3, 8, 17, 1), (12, .iload_n 3, 1, 0, 0, 0), (13, .iconst 0, 1, 0, 0, 0), (14, .iastore, 1, 0, 0, 0), (15, .iinc 3 1, 3, 1, 0, 0)],
  [(18, .goto (-16), 3, 0, 0, 0), (21, .iconst 0, 1, 0, 0, 0), (22, .istore_n 3, 1, 0, 0, 0), (23, .sipush 1000, 3, 1000, 0, 0), (26, .iload_n 1, 1, 0, 0, 0), (27, .imul, 1, 0, 0, 0), (28, .istore 4, 2, 0, 0, 0), (30, .iload 4, 2, 0, 0, 0)],
  [(32, .sipush 1000, 3, 1000, 0, 0), (35, .iload_n 1, 1, 0, 0, 0), (36, .imul, 1, 0, 0, 0), (37, .aload_n 0, 1, 0, 0, 0), (38, .getfield 35, 3, 8, 11, 1), (41, .iload_n 1, 1, 0, 0, 0), (42, .iaload, 1, 0, 0, 0), (43, .iadd, 1, 0, 0, 0), (44, .if_icmp .ge 65, 3, 0, 0, 0), (47, .aload_n 0, 1, 0, 0, 0)],
  [(48, .aload_n 0, 1, 0, 0, 0), (49, .getfield 29, 3, 8, 9, 1), (52, .iload 4, 2, 0, 0, 0), (54, .iaload, 1, 0, 0, 0), (55, .invokevirtual 175, 3, 129, 1, 9), (58, .aload_n 0, 1, 0, 0, 0), (59, .getfield 26, 3, 8, 7, 1), (62, .iload_n 2, 1, 0, 0, 0), (63, .iaload, 1, 0, 0, 0)],
  [(64, .bipush 97, 2, 97, 0, 0), (66, .isub, 1, 0, 0, 0), (67, .istore 5, 2, 0, 0, 0), (69, .aload_n 0, 1, 0, 0, 0), (70, .getfield 53, 3, 8, 17, 1), (73, .iload 5, 2, 0, 0, 0), (75, .dup2, 1, 0, 0, 0), (76, .iaload, 1, 0, 0, 0), (77, .iconst 1, 1, 1, 0, 0), (78, .iadd, 1, 0, 0, 0), (79, .iastore, 1, 0, 0, 0)],
  [(80, .aload_n 0, 1, 0, 0, 0), (81, .getfield 53, 3, 8, 17, 1), (84, .iload 5, 2, 0, 0, 0), (86, .iaload, 1, 0, 0, 0), (87, .iload_n 3, 1, 0, 0, 0), (88, .if_icmp .le 13, 3, 0, 0, 0), (91, .aload_n 0, 1, 0, 0, 0), (92, .getfield 53, 3, 8, 17, 1), (95, .iload 5, 2, 0, 0, 0)],
  [(97, .iaload, 1, 0, 0, 0), (98, .goto 4, 3, 0, 0, 0), (101, .iload_n 3, 1, 0, 0, 0), (102, .istore_n 3, 1, 0, 0, 0), (103, .iinc 4 1, 3, 1, 0, 0), (106, .goto (-76), 3, 0, 0, 0), (109, .iload_n 3, 1, 0, 0, 0), (110, .ireturn, 1, 0, 0, 0)]]
/-- WornSumsModel.look(I)I -/
def pc_152 : List (List (Nat × smI)) := [[(0, .aload_n 0, 1, 0, 0, 0), (1, .iload_n 1, 1, 0, 0, 0), (2, .invokevirtual 158, 3, 116, 1, 9), (5, .ifCond .ne 5, 3, 0, 0, 0), (8, .iconst (-1), 1, 1, 1, 0), (9, .ireturn, 1, 0, 0, 0), (10, .aload_n 0, 1, 0, 0, 0), (11, .iload_n 1, 1, 0, 0, 0), (12, .invokevirtual 191, 3, 134, 1, 9), (15, .iload_n 1, 1, 0, 0, 0)],
  [(16, .iconst 0, 1, 0, 0, 0), (17, .invokestatic 161, 3, 118, 2, 0), (20, .istore_n 2, 1, 0, 0, 0), (21, .bipush (-9), 2, 9, 1, 0), (23, .istore_n 3, 1, 0, 0, 0), (24, .sipush 1001, 3, 1001, 0, 0), (27, .istore 4, 2, 0, 0, 0), (29, .iconst 0, 1, 0, 0, 0), (30, .istore 5, 2, 0, 0, 0)],
  [(32, .iload 5, 2, 0, 0, 0), (34, .aload_n 0, 1, 0, 0, 0), (35, .getfield 7, 3, 8, 0, 1), (38, .iload_n 2, 1, 0, 0, 0), (39, .iaload, 1, 0, 0, 0), (40, .if_icmp .ge 74, 3, 0, 0, 0), (43, .aload_n 0, 1, 0, 0, 0), (44, .getfield 35, 3, 8, 11, 1), (47, .iload_n 1, 1, 0, 0, 0)],
  [(48, .iaload, 1, 0, 0, 0), (49, .iconst 1, 1, 1, 0, 0), (50, .if_icmp .le 64, 3, 0, 0, 0), (53, .aload_n 0, 1, 0, 0, 0), (54, .getfield 7, 3, 8, 0, 1), (57, .iload_n 2, 1, 0, 0, 0), (58, .iconst 1, 1, 1, 0, 0), (59, .iadd, 1, 0, 0, 0), (60, .iload 5, 2, 0, 0, 0), (62, .iadd, 1, 0, 0, 0), (63, .iaload, 1, 0, 0, 0)],
  [(64, .bipush 63, 2, 63, 0, 0), (66, .if_icmp .ne 42, 3, 0, 0, 0), (69, .aload_n 0, 1, 0, 0, 0), (70, .iload_n 1, 1, 0, 0, 0), (71, .iload 5, 2, 0, 0, 0), (73, .invokevirtual 224, 3, 151, 2, 9), (76, .istore 6, 2, 0, 0, 0), (78, .iload 6, 2, 0, 0, 0)],
  [(80, .iload 4, 2, 0, 0, 0), (82, .if_icmp .ge 8, 3, 0, 0, 0), (85, .iload 5, 2, 0, 0, 0), (87, .goto 4, 3, 0, 0, 0), (90, .iload_n 3, 1, 0, 0, 0), (91, .istore_n 3, 1, 0, 0, 0), (92, .iload 6, 2, 0, 0, 0), (94, .iload 4, 2, 0, 0, 0)],
  [(96, .if_icmp .ge 8, 3, 0, 0, 0), (99, .iload 6, 2, 0, 0, 0), (101, .goto 5, 3, 0, 0, 0), (104, .iload 4, 2, 0, 0, 0), (106, .istore 4, 2, 0, 0, 0), (108, .iinc 5 1, 3, 1, 0, 0), (111, .goto (-79), 3, 0, 0, 0)],
  [(114, .iload_n 3, 1, 0, 0, 0), (115, .ireturn, 1, 0, 0, 0)]]
/-- WornSumsModel.keep(I)I -/
def pc_153 : List (List (Nat × smI)) := [[(0, .iload_n 1, 1, 0, 0, 0), (1, .iconst 0, 1, 0, 0, 0), (2, .iconst 1, 1, 1, 0, 0), (3, .invokestatic 137, 3, 107, 3, 0), (6, .ifCond .ne 5, 3, 0, 0, 0), (9, .iconst (-1), 1, 1, 1, 0), (10, .ireturn, 1, 0, 0, 0), (11, .aload_n 0, 1, 0, 0, 0), (12, .getfield 7, 3, 8, 0, 1), (15, .iconst 0, 1, 0, 0, 0)],
  [(16, .aload_n 0, 1, 0, 0, 0), (17, .getfield 16, 3, 8, 3, 1), (20, .sipush 219, 3, 219, 0, 0), (23, .iload_n 1, 1, 0, 0, 0), (24, .imul, 1, 0, 0, 0), (25, .sipush 219, 3, 219, 0, 0), (28, .invokestatic 60, 3, 113, 5, 0), (31, .aload_n 0, 1, 0, 0, 0)],
  [(32, .getfield 19, 3, 8, 4, 1), (35, .iload_n 1, 1, 0, 0, 0), (36, .iconst 1, 1, 1, 0, 0), (37, .bastore, 1, 0, 0, 0), (38, .aload_n 0, 1, 0, 0, 0), (39, .getfield 7, 3, 8, 0, 1), (42, .iconst 0, 1, 0, 0, 0), (43, .iaload, 1, 0, 0, 0), (44, .ireturn, 1, 0, 0, 0)]]
/-- WornSumsModel.back(I)I -/
def pc_154 : List (List (Nat × smI)) := [[(0, .iload_n 1, 1, 0, 0, 0), (1, .iconst 0, 1, 0, 0, 0), (2, .iconst 1, 1, 1, 0, 0), (3, .invokestatic 137, 3, 107, 3, 0), (6, .ifCond .ne 5, 3, 0, 0, 0), (9, .iconst (-1), 1, 1, 1, 0), (10, .ireturn, 1, 0, 0, 0), (11, .aload_n 0, 1, 0, 0, 0), (12, .getfield 19, 3, 8, 4, 1), (15, .iload_n 1, 1, 0, 0, 0)],
  [(16, .baload, 1, 0, 0, 0), (17, .ifCond .ne 6, 3, 0, 0, 0), (20, .bipush (-2), 2, 2, 1, 0), (22, .ireturn, 1, 0, 0, 0), (23, .aload_n 0, 1, 0, 0, 0), (24, .getfield 16, 3, 8, 3, 1), (27, .sipush 219, 3, 219, 0, 0), (30, .iload_n 1, 1, 0, 0, 0), (31, .imul, 1, 0, 0, 0)],
  [(32, .aload_n 0, 1, 0, 0, 0), (33, .getfield 7, 3, 8, 0, 1), (36, .iconst 0, 1, 0, 0, 0), (37, .sipush 219, 3, 219, 0, 0), (40, .invokestatic 60, 3, 113, 5, 0), (43, .aload_n 0, 1, 0, 0, 0), (44, .iconst 0, 1, 0, 0, 0), (45, .putfield 56, 3, 8, 2, 0)],
  [(48, .aload_n 0, 1, 0, 0, 0), (49, .getfield 7, 3, 8, 0, 1), (52, .iconst 0, 1, 0, 0, 0), (53, .iaload, 1, 0, 0, 0), (54, .ireturn, 1, 0, 0, 0)]]
/-- WornSumsModel.count(I)I -/
def pc_155 : List (List (Nat × smI)) := [[(0, .iconst 0, 1, 0, 0, 0), (1, .istore_n 2, 1, 0, 0, 0), (2, .iconst 0, 1, 0, 0, 0), (3, .istore_n 3, 1, 0, 0, 0), (4, .iload_n 1, 1, 0, 0, 0), (5, .iconst 1, 1, 1, 0, 0), (6, .if_icmp .eq 8, 3, 0, 0, 0), (9, .iload_n 1, 1, 0, 0, 0), (10, .iconst 4, 1, 4, 0, 0), (11, .if_icmp .ne 7, 3, 0, 0, 0), (14, .aload_n 0, 1, 0, 0, 0), (15, .invokevirtual 198, 3, 140, 0, 9)],
  [(18, .iconst 0, 1, 0, 0, 0), (19, .istore 4, 2, 0, 0, 0), (21, .iload 4, 2, 0, 0, 0), (23, .aload_n 0, 1, 0, 0, 0), (24, .getfield 7, 3, 8, 0, 1), (27, .iconst 0, 1, 0, 0, 0), (28, .iaload, 1, 0, 0, 0), (29, .if_icmp .ge 36, 3, 0, 0, 0)],
  [(32, .iload_n 2, 1, 0, 0, 0), (33, .aload_n 0, 1, 0, 0, 0), (34, .getfield 35, 3, 8, 11, 1), (37, .iload 4, 2, 0, 0, 0), (39, .iaload, 1, 0, 0, 0), (40, .ifCond .ne 7, 3, 0, 0, 0), (43, .iconst 1, 1, 1, 0, 0), (44, .goto 4, 3, 0, 0, 0), (47, .iconst 0, 1, 0, 0, 0)],
  [(48, .iadd, 1, 0, 0, 0), (49, .istore_n 2, 1, 0, 0, 0), (50, .iload_n 3, 1, 0, 0, 0), (51, .aload_n 0, 1, 0, 0, 0), (52, .iload 4, 2, 0, 0, 0), (54, .invokevirtual 168, 3, 121, 1, 9), (57, .iadd, 1, 0, 0, 0), (58, .istore_n 3, 1, 0, 0, 0), (59, .iinc 4 1, 3, 1, 0, 0), (62, .goto (-41), 3, 0, 0, 0)],
  [(65, .iload_n 1, 1, 0, 0, 0), (66, .tableswitch 77 0 6 #[42, 49, 51, 58, 65, 67, 72], 42, 0, 0, 0)],
  [],
  [(108, .aload_n 0, 1, 0, 0, 0), (109, .getfield 7, 3, 8, 0, 1)],
  [(112, .iconst 0, 1, 0, 0, 0), (113, .iaload, 1, 0, 0, 0), (114, .ireturn, 1, 0, 0, 0), (115, .iload_n 2, 1, 0, 0, 0), (116, .ireturn, 1, 0, 0, 0), (117, .aload_n 0, 1, 0, 0, 0), (118, .getfield 7, 3, 8, 0, 1), (121, .iconst 1, 1, 1, 0, 0), (122, .iaload, 1, 0, 0, 0), (123, .ireturn, 1, 0, 0, 0), (124, .aload_n 0, 1, 0, 0, 0), (125, .getfield 7, 3, 8, 0, 1)],
  [(128, .iconst 2, 1, 2, 0, 0), (129, .iaload, 1, 0, 0, 0), (130, .ireturn, 1, 0, 0, 0), (131, .iload_n 3, 1, 0, 0, 0), (132, .ireturn, 1, 0, 0, 0), (133, .aload_n 0, 1, 0, 0, 0), (134, .getfield 141, 3, 8, 6, 0), (137, .ireturn, 1, 0, 0, 0), (138, .aload_n 0, 1, 0, 0, 0), (139, .getfield 56, 3, 8, 2, 0), (142, .ireturn, 1, 0, 0, 0), (143, .iconst (-1), 1, 1, 1, 0)],
  [(144, .ireturn, 1, 0, 0, 0)]]
/-- WornSumsLaw.law([I)Z -/
def pc_156 : List (List (Nat × smI)) := [[(0, .new 7, 3, 7, 0, 0), (3, .dup, 1, 0, 0, 0), (4, .invokespecial 9, 3, 26, 0, 1), (7, .astore_n 1, 1, 0, 0, 0), (8, .new 10, 3, 8, 0, 0), (11, .dup, 1, 0, 0, 0), (12, .invokespecial 12, 3, 106, 0, 1), (15, .astore_n 2, 1, 0, 0, 0)],
  [(16, .iconst 0, 1, 0, 0, 0), (17, .istore_n 3, 1, 0, 0, 0), (18, .iload_n 3, 1, 0, 0, 0), (19, .aload_n 0, 1, 0, 0, 0), (20, .arraylength, 1, 0, 0, 0), (21, .iconst 5, 1, 5, 0, 0), (22, .isub, 1, 0, 0, 0), (23, .if_icmp .gt 671, 3, 0, 0, 0), (26, .aload_n 0, 1, 0, 0, 0), (27, .iload_n 3, 1, 0, 0, 0), (28, .iaload, 1, 0, 0, 0), (29, .bipush 31, 2, 31, 0, 0), (31, .iand, 1, 0, 0, 0)],
  [(32, .tableswitch 656 0 19 #[96, 119, 132, 145, 168, 211, 264, 287, 310, 323, 356, 399, 442, 485, 518, 541, 564, 587, 610, 633], 96, 0, 0, 0)],
  [],
  [],
  [],
  [],
  [],
  [(128, .aload_n 1, 1, 0, 0, 0), (129, .aload_n 0, 1, 0, 0, 0), (130, .iload_n 3, 1, 0, 0, 0), (131, .iconst 1, 1, 1, 0, 0), (132, .iadd, 1, 0, 0, 0), (133, .iaload, 1, 0, 0, 0), (134, .invokevirtual 13, 3, 28, 1, 8), (137, .aload_n 2, 1, 0, 0, 0), (138, .aload_n 0, 1, 0, 0, 0), (139, .iload_n 3, 1, 0, 0, 0), (140, .iconst 1, 1, 1, 0, 0), (141, .iadd, 1, 0, 0, 0), (142, .iaload, 1, 0, 0, 0), (143, .invokevirtual 17, 3, 108, 1, 9)],
  [(146, .if_icmp .eq 542, 3, 0, 0, 0), (149, .iconst 0, 1, 0, 0, 0), (150, .ireturn, 1, 0, 0, 1), (151, .aload_n 1, 1, 0, 0, 0), (152, .invokevirtual 18, 3, 29, 0, 8), (155, .aload_n 2, 1, 0, 0, 0), (156, .invokevirtual 22, 3, 109, 0, 9), (159, .if_icmp .eq 529, 3, 0, 0, 0)],
  [(162, .iconst 0, 1, 0, 0, 0), (163, .ireturn, 1, 0, 0, 1), (164, .aload_n 1, 1, 0, 0, 0), (165, .invokevirtual 23, 3, 47, 0, 8), (168, .aload_n 2, 1, 0, 0, 0), (169, .invokevirtual 26, 3, 115, 0, 9), (172, .if_icmp .eq 516, 3, 0, 0, 0), (175, .iconst 0, 1, 0, 0, 0)],
  [(176, .ireturn, 1, 0, 0, 1), (177, .aload_n 1, 1, 0, 0, 0), (178, .aload_n 0, 1, 0, 0, 0), (179, .iload_n 3, 1, 0, 0, 0), (180, .iconst 1, 1, 1, 0, 0), (181, .iadd, 1, 0, 0, 0), (182, .iaload, 1, 0, 0, 0), (183, .invokevirtual 27, 3, 50, 1, 8), (186, .aload_n 2, 1, 0, 0, 0), (187, .aload_n 0, 1, 0, 0, 0), (188, .iload_n 3, 1, 0, 0, 0), (189, .iconst 1, 1, 1, 0, 0), (190, .iadd, 1, 0, 0, 0), (191, .iaload, 1, 0, 0, 0)],
  [(192, .invokevirtual 30, 3, 117, 1, 9), (195, .if_icmp .eq 493, 3, 0, 0, 0), (198, .iconst 0, 1, 0, 0, 0), (199, .ireturn, 1, 0, 0, 1), (200, .aload_n 1, 1, 0, 0, 0), (201, .aload_n 0, 1, 0, 0, 0), (202, .iload_n 3, 1, 0, 0, 0), (203, .iconst 1, 1, 1, 0, 0), (204, .iadd, 1, 0, 0, 0), (205, .iaload, 1, 0, 0, 0), (206, .aload_n 0, 1, 0, 0, 0), (207, .iload_n 3, 1, 0, 0, 0)],
  [(208, .iconst 2, 1, 2, 0, 0), (209, .iadd, 1, 0, 0, 0), (210, .iaload, 1, 0, 0, 0), (211, .aload_n 0, 1, 0, 0, 0), (212, .iload_n 3, 1, 0, 0, 0), (213, .iconst 3, 1, 3, 0, 0), (214, .iadd, 1, 0, 0, 0), (215, .iaload, 1, 0, 0, 0), (216, .invokevirtual 31, 3, 52, 3, 8), (219, .aload_n 2, 1, 0, 0, 0), (220, .aload_n 0, 1, 0, 0, 0), (221, .iload_n 3, 1, 0, 0, 0), (222, .iconst 1, 1, 1, 0, 0), (223, .iadd, 1, 0, 0, 0)],
  [(224, .iaload, 1, 0, 0, 0), (225, .aload_n 0, 1, 0, 0, 0), (226, .iload_n 3, 1, 0, 0, 0), (227, .iconst 2, 1, 2, 0, 0), (228, .iadd, 1, 0, 0, 0), (229, .iaload, 1, 0, 0, 0), (230, .aload_n 0, 1, 0, 0, 0), (231, .iload_n 3, 1, 0, 0, 0), (232, .iconst 3, 1, 3, 0, 0), (233, .iadd, 1, 0, 0, 0), (234, .iaload, 1, 0, 0, 0), (235, .invokevirtual 35, 3, 120, 3, 9), (238, .if_icmp .eq 450, 3, 0, 0, 0)],
  [(241, .iconst 0, 1, 0, 0, 0), (242, .ireturn, 1, 0, 0, 1), (243, .aload_n 1, 1, 0, 0, 0), (244, .aload_n 0, 1, 0, 0, 0), (245, .iload_n 3, 1, 0, 0, 0), (246, .iconst 1, 1, 1, 0, 0), (247, .iadd, 1, 0, 0, 0), (248, .iaload, 1, 0, 0, 0), (249, .aload_n 0, 1, 0, 0, 0), (250, .iload_n 3, 1, 0, 0, 0), (251, .iconst 2, 1, 2, 0, 0), (252, .iadd, 1, 0, 0, 0), (253, .iaload, 1, 0, 0, 0), (254, .aload_n 0, 1, 0, 0, 0), (255, .iload_n 3, 1, 0, 0, 0)],
  [(256, .iconst 3, 1, 3, 0, 0), (257, .iadd, 1, 0, 0, 0), (258, .iaload, 1, 0, 0, 0), (259, .aload_n 0, 1, 0, 0, 0), (260, .iload_n 3, 1, 0, 0, 0), (261, .iconst 4, 1, 4, 0, 0), (262, .iadd, 1, 0, 0, 0), (263, .iaload, 1, 0, 0, 0), (264, .invokevirtual 36, 3, 56, 4, 8), (267, .aload_n 2, 1, 0, 0, 0), (268, .aload_n 0, 1, 0, 0, 0), (269, .iload_n 3, 1, 0, 0, 0), (270, .iconst 1, 1, 1, 0, 0), (271, .iadd, 1, 0, 0, 0)],
  [(272, .iaload, 1, 0, 0, 0), (273, .aload_n 0, 1, 0, 0, 0), (274, .iload_n 3, 1, 0, 0, 0), (275, .iconst 2, 1, 2, 0, 0), (276, .iadd, 1, 0, 0, 0), (277, .iaload, 1, 0, 0, 0), (278, .aload_n 0, 1, 0, 0, 0), (279, .iload_n 3, 1, 0, 0, 0), (280, .iconst 3, 1, 3, 0, 0), (281, .iadd, 1, 0, 0, 0), (282, .iaload, 1, 0, 0, 0), (283, .aload_n 0, 1, 0, 0, 0), (284, .iload_n 3, 1, 0, 0, 0), (285, .iconst 4, 1, 4, 0, 0), (286, .iadd, 1, 0, 0, 0), (287, .iaload, 1, 0, 0, 0)],
  [(288, .invokevirtual 40, 3, 122, 4, 9), (291, .if_icmp .eq 397, 3, 0, 0, 0), (294, .iconst 0, 1, 0, 0, 0), (295, .ireturn, 1, 0, 0, 1), (296, .aload_n 1, 1, 0, 0, 0), (297, .aload_n 0, 1, 0, 0, 0), (298, .iload_n 3, 1, 0, 0, 0), (299, .iconst 1, 1, 1, 0, 0), (300, .iadd, 1, 0, 0, 0), (301, .iaload, 1, 0, 0, 0), (302, .invokevirtual 41, 3, 57, 1, 8)],
  [(305, .aload_n 2, 1, 0, 0, 0), (306, .aload_n 0, 1, 0, 0, 0), (307, .iload_n 3, 1, 0, 0, 0), (308, .iconst 1, 1, 1, 0, 0), (309, .iadd, 1, 0, 0, 0), (310, .iaload, 1, 0, 0, 0), (311, .invokevirtual 44, 3, 124, 1, 9), (314, .if_icmp .eq 374, 3, 0, 0, 0), (317, .iconst 0, 1, 0, 0, 0), (318, .ireturn, 1, 0, 0, 1), (319, .aload_n 1, 1, 0, 0, 0)],
  [(320, .aload_n 0, 1, 0, 0, 0), (321, .iload_n 3, 1, 0, 0, 0), (322, .iconst 1, 1, 1, 0, 0), (323, .iadd, 1, 0, 0, 0), (324, .iaload, 1, 0, 0, 0), (325, .invokevirtual 45, 3, 58, 1, 8), (328, .aload_n 2, 1, 0, 0, 0), (329, .aload_n 0, 1, 0, 0, 0), (330, .iload_n 3, 1, 0, 0, 0), (331, .iconst 1, 1, 1, 0, 0), (332, .iadd, 1, 0, 0, 0), (333, .iaload, 1, 0, 0, 0), (334, .invokevirtual 48, 3, 125, 1, 9)],
  [(337, .if_icmp .eq 351, 3, 0, 0, 0), (340, .iconst 0, 1, 0, 0, 0), (341, .ireturn, 1, 0, 0, 1), (342, .aload_n 1, 1, 0, 0, 0), (343, .invokevirtual 49, 3, 60, 0, 8), (346, .aload_n 2, 1, 0, 0, 0), (347, .invokevirtual 52, 3, 126, 0, 9), (350, .if_icmp .eq 338, 3, 0, 0, 0)],
  [(353, .iconst 0, 1, 0, 0, 0), (354, .ireturn, 1, 0, 0, 1), (355, .aload_n 1, 1, 0, 0, 0), (356, .aload_n 0, 1, 0, 0, 0), (357, .iload_n 3, 1, 0, 0, 0), (358, .iconst 1, 1, 1, 0, 0), (359, .iadd, 1, 0, 0, 0), (360, .iaload, 1, 0, 0, 0), (361, .aload_n 0, 1, 0, 0, 0), (362, .iload_n 3, 1, 0, 0, 0), (363, .iconst 2, 1, 2, 0, 0), (364, .iadd, 1, 0, 0, 0), (365, .iaload, 1, 0, 0, 0), (366, .invokevirtual 53, 3, 71, 2, 8)],
  [(369, .aload_n 2, 1, 0, 0, 0), (370, .aload_n 0, 1, 0, 0, 0), (371, .iload_n 3, 1, 0, 0, 0), (372, .iconst 1, 1, 1, 0, 0), (373, .iadd, 1, 0, 0, 0), (374, .iaload, 1, 0, 0, 0), (375, .aload_n 0, 1, 0, 0, 0), (376, .iload_n 3, 1, 0, 0, 0), (377, .iconst 2, 1, 2, 0, 0), (378, .iadd, 1, 0, 0, 0), (379, .iaload, 1, 0, 0, 0), (380, .invokevirtual 57, 3, 135, 2, 9), (383, .if_icmp .eq 305, 3, 0, 0, 0)],
  [(386, .iconst 0, 1, 0, 0, 0), (387, .ireturn, 1, 0, 0, 1), (388, .aload_n 1, 1, 0, 0, 0), (389, .aload_n 0, 1, 0, 0, 0), (390, .iload_n 3, 1, 0, 0, 0), (391, .iconst 1, 1, 1, 0, 0), (392, .iadd, 1, 0, 0, 0), (393, .iaload, 1, 0, 0, 0), (394, .aload_n 0, 1, 0, 0, 0), (395, .iload_n 3, 1, 0, 0, 0), (396, .iconst 2, 1, 2, 0, 0), (397, .iadd, 1, 0, 0, 0), (398, .iaload, 1, 0, 0, 0), (399, .aload_n 0, 1, 0, 0, 0)],
  [(400, .iload_n 3, 1, 0, 0, 0), (401, .iconst 3, 1, 3, 0, 0), (402, .iadd, 1, 0, 0, 0), (403, .iaload, 1, 0, 0, 0), (404, .invokevirtual 58, 3, 72, 3, 8), (407, .aload_n 2, 1, 0, 0, 0), (408, .aload_n 0, 1, 0, 0, 0), (409, .iload_n 3, 1, 0, 0, 0), (410, .iconst 1, 1, 1, 0, 0), (411, .iadd, 1, 0, 0, 0), (412, .iaload, 1, 0, 0, 0), (413, .aload_n 0, 1, 0, 0, 0), (414, .iload_n 3, 1, 0, 0, 0), (415, .iconst 2, 1, 2, 0, 0)],
  [(416, .iadd, 1, 0, 0, 0), (417, .iaload, 1, 0, 0, 0), (418, .aload_n 0, 1, 0, 0, 0), (419, .iload_n 3, 1, 0, 0, 0), (420, .iconst 3, 1, 3, 0, 0), (421, .iadd, 1, 0, 0, 0), (422, .iaload, 1, 0, 0, 0), (423, .invokevirtual 61, 3, 136, 3, 9), (426, .if_icmp .eq 262, 3, 0, 0, 0), (429, .iconst 0, 1, 0, 0, 0), (430, .ireturn, 1, 0, 0, 1), (431, .aload_n 1, 1, 0, 0, 0)],
  [(432, .aload_n 0, 1, 0, 0, 0), (433, .iload_n 3, 1, 0, 0, 0), (434, .iconst 1, 1, 1, 0, 0), (435, .iadd, 1, 0, 0, 0), (436, .iaload, 1, 0, 0, 0), (437, .aload_n 0, 1, 0, 0, 0), (438, .iload_n 3, 1, 0, 0, 0), (439, .iconst 2, 1, 2, 0, 0), (440, .iadd, 1, 0, 0, 0), (441, .iaload, 1, 0, 0, 0), (442, .aload_n 0, 1, 0, 0, 0), (443, .iload_n 3, 1, 0, 0, 0), (444, .iconst 3, 1, 3, 0, 0), (445, .iadd, 1, 0, 0, 0), (446, .iaload, 1, 0, 0, 0), (447, .invokevirtual 62, 3, 73, 3, 8)],
  [(450, .aload_n 2, 1, 0, 0, 0), (451, .aload_n 0, 1, 0, 0, 0), (452, .iload_n 3, 1, 0, 0, 0), (453, .iconst 1, 1, 1, 0, 0), (454, .iadd, 1, 0, 0, 0), (455, .iaload, 1, 0, 0, 0), (456, .aload_n 0, 1, 0, 0, 0), (457, .iload_n 3, 1, 0, 0, 0), (458, .iconst 2, 1, 2, 0, 0), (459, .iadd, 1, 0, 0, 0), (460, .iaload, 1, 0, 0, 0), (461, .aload_n 0, 1, 0, 0, 0), (462, .iload_n 3, 1, 0, 0, 0), (463, .iconst 3, 1, 3, 0, 0)],
  [(464, .iadd, 1, 0, 0, 0), (465, .iaload, 1, 0, 0, 0), (466, .invokevirtual 65, 3, 137, 3, 9), (469, .if_icmp .eq 219, 3, 0, 0, 0), (472, .iconst 0, 1, 0, 0, 0), (473, .ireturn, 1, 0, 0, 1), (474, .aload_n 1, 1, 0, 0, 0), (475, .aload_n 0, 1, 0, 0, 0), (476, .iload_n 3, 1, 0, 0, 0), (477, .iconst 1, 1, 1, 0, 0), (478, .iadd, 1, 0, 0, 0), (479, .iaload, 1, 0, 0, 0)],
  [(480, .aload_n 0, 1, 0, 0, 0), (481, .iload_n 3, 1, 0, 0, 0), (482, .iconst 2, 1, 2, 0, 0), (483, .iadd, 1, 0, 0, 0), (484, .iaload, 1, 0, 0, 0), (485, .aload_n 0, 1, 0, 0, 0), (486, .iload_n 3, 1, 0, 0, 0), (487, .iconst 3, 1, 3, 0, 0), (488, .iadd, 1, 0, 0, 0), (489, .iaload, 1, 0, 0, 0), (490, .invokevirtual 66, 3, 78, 3, 8), (493, .aload_n 2, 1, 0, 0, 0), (494, .aload_n 0, 1, 0, 0, 0), (495, .iload_n 3, 1, 0, 0, 0)],
  [(496, .iconst 1, 1, 1, 0, 0), (497, .iadd, 1, 0, 0, 0), (498, .iaload, 1, 0, 0, 0), (499, .aload_n 0, 1, 0, 0, 0), (500, .iload_n 3, 1, 0, 0, 0), (501, .iconst 2, 1, 2, 0, 0), (502, .iadd, 1, 0, 0, 0), (503, .iaload, 1, 0, 0, 0), (504, .aload_n 0, 1, 0, 0, 0), (505, .iload_n 3, 1, 0, 0, 0), (506, .iconst 3, 1, 3, 0, 0), (507, .iadd, 1, 0, 0, 0), (508, .iaload, 1, 0, 0, 0), (509, .invokevirtual 69, 3, 138, 3, 9)],
  [(512, .if_icmp .eq 176, 3, 0, 0, 0), (515, .iconst 0, 1, 0, 0, 0), (516, .ireturn, 1, 0, 0, 1), (517, .aload_n 1, 1, 0, 0, 0), (518, .aload_n 0, 1, 0, 0, 0), (519, .iload_n 3, 1, 0, 0, 0), (520, .iconst 1, 1, 1, 0, 0), (521, .iadd, 1, 0, 0, 0), (522, .iaload, 1, 0, 0, 0), (523, .aload_n 0, 1, 0, 0, 0), (524, .iload_n 3, 1, 0, 0, 0), (525, .iconst 2, 1, 2, 0, 0), (526, .iadd, 1, 0, 0, 0), (527, .iaload, 1, 0, 0, 0)],
  [(528, .invokevirtual 70, 3, 79, 2, 8), (531, .aload_n 2, 1, 0, 0, 0), (532, .aload_n 0, 1, 0, 0, 0), (533, .iload_n 3, 1, 0, 0, 0), (534, .iconst 1, 1, 1, 0, 0), (535, .iadd, 1, 0, 0, 0), (536, .iaload, 1, 0, 0, 0), (537, .aload_n 0, 1, 0, 0, 0), (538, .iload_n 3, 1, 0, 0, 0), (539, .iconst 2, 1, 2, 0, 0), (540, .iadd, 1, 0, 0, 0), (541, .iaload, 1, 0, 0, 0), (542, .invokevirtual 73, 3, 139, 2, 9)],
  [(545, .if_icmp .eq 143, 3, 0, 0, 0), (548, .iconst 0, 1, 0, 0, 0), (549, .ireturn, 1, 0, 0, 1), (550, .aload_n 1, 1, 0, 0, 0), (551, .aload_n 0, 1, 0, 0, 0), (552, .iload_n 3, 1, 0, 0, 0), (553, .iconst 1, 1, 1, 0, 0), (554, .iadd, 1, 0, 0, 0), (555, .iaload, 1, 0, 0, 0), (556, .invokevirtual 74, 3, 91, 1, 8), (559, .aload_n 2, 1, 0, 0, 0)],
  [(560, .aload_n 0, 1, 0, 0, 0), (561, .iload_n 3, 1, 0, 0, 0), (562, .iconst 1, 1, 1, 0, 0), (563, .iadd, 1, 0, 0, 0), (564, .iaload, 1, 0, 0, 0), (565, .invokevirtual 77, 3, 146, 1, 9), (568, .if_icmp .eq 120, 3, 0, 0, 0), (571, .iconst 0, 1, 0, 0, 0), (572, .ireturn, 1, 0, 0, 1), (573, .aload_n 1, 1, 0, 0, 0), (574, .aload_n 0, 1, 0, 0, 0), (575, .iload_n 3, 1, 0, 0, 0)],
  [(576, .iconst 1, 1, 1, 0, 0), (577, .iadd, 1, 0, 0, 0), (578, .iaload, 1, 0, 0, 0), (579, .invokevirtual 78, 3, 98, 1, 8), (582, .aload_n 2, 1, 0, 0, 0), (583, .aload_n 0, 1, 0, 0, 0), (584, .iload_n 3, 1, 0, 0, 0), (585, .iconst 1, 1, 1, 0, 0), (586, .iadd, 1, 0, 0, 0), (587, .iaload, 1, 0, 0, 0), (588, .invokevirtual 81, 3, 150, 1, 9), (591, .if_icmp .eq 97, 3, 0, 0, 0)],
  [(594, .iconst 0, 1, 0, 0, 0), (595, .ireturn, 1, 0, 0, 1), (596, .aload_n 1, 1, 0, 0, 0), (597, .aload_n 0, 1, 0, 0, 0), (598, .iload_n 3, 1, 0, 0, 0), (599, .iconst 1, 1, 1, 0, 0), (600, .iadd, 1, 0, 0, 0), (601, .iaload, 1, 0, 0, 0), (602, .invokevirtual 82, 3, 101, 1, 8), (605, .aload_n 2, 1, 0, 0, 0), (606, .aload_n 0, 1, 0, 0, 0), (607, .iload_n 3, 1, 0, 0, 0)],
  [(608, .iconst 1, 1, 1, 0, 0), (609, .iadd, 1, 0, 0, 0), (610, .iaload, 1, 0, 0, 0), (611, .invokevirtual 85, 3, 152, 1, 9), (614, .if_icmp .eq 74, 3, 0, 0, 0), (617, .iconst 0, 1, 0, 0, 0), (618, .ireturn, 1, 0, 0, 1), (619, .aload_n 1, 1, 0, 0, 0), (620, .aload_n 0, 1, 0, 0, 0), (621, .iload_n 3, 1, 0, 0, 0), (622, .iconst 1, 1, 1, 0, 0), (623, .iadd, 1, 0, 0, 0)],
  [(624, .iaload, 1, 0, 0, 0), (625, .invokevirtual 86, 3, 102, 1, 8), (628, .aload_n 2, 1, 0, 0, 0), (629, .aload_n 0, 1, 0, 0, 0), (630, .iload_n 3, 1, 0, 0, 0), (631, .iconst 1, 1, 1, 0, 0), (632, .iadd, 1, 0, 0, 0), (633, .iaload, 1, 0, 0, 0), (634, .invokevirtual 89, 3, 153, 1, 9), (637, .if_icmp .eq 51, 3, 0, 0, 0)],
  [(640, .iconst 0, 1, 0, 0, 0), (641, .ireturn, 1, 0, 0, 1), (642, .aload_n 1, 1, 0, 0, 0), (643, .aload_n 0, 1, 0, 0, 0), (644, .iload_n 3, 1, 0, 0, 0), (645, .iconst 1, 1, 1, 0, 0), (646, .iadd, 1, 0, 0, 0), (647, .iaload, 1, 0, 0, 0), (648, .invokevirtual 90, 3, 103, 1, 8), (651, .aload_n 2, 1, 0, 0, 0), (652, .aload_n 0, 1, 0, 0, 0), (653, .iload_n 3, 1, 0, 0, 0), (654, .iconst 1, 1, 1, 0, 0), (655, .iadd, 1, 0, 0, 0)],
  [(656, .iaload, 1, 0, 0, 0), (657, .invokevirtual 93, 3, 154, 1, 9), (660, .if_icmp .eq 28, 3, 0, 0, 0), (663, .iconst 0, 1, 0, 0, 0), (664, .ireturn, 1, 0, 0, 1), (665, .aload_n 1, 1, 0, 0, 0), (666, .aload_n 0, 1, 0, 0, 0), (667, .iload_n 3, 1, 0, 0, 0), (668, .iconst 1, 1, 1, 0, 0), (669, .iadd, 1, 0, 0, 0), (670, .iaload, 1, 0, 0, 0), (671, .invokevirtual 94, 3, 105, 1, 8)],
  [(674, .aload_n 2, 1, 0, 0, 0), (675, .aload_n 0, 1, 0, 0, 0), (676, .iload_n 3, 1, 0, 0, 0), (677, .iconst 1, 1, 1, 0, 0), (678, .iadd, 1, 0, 0, 0), (679, .iaload, 1, 0, 0, 0), (680, .invokevirtual 97, 3, 155, 1, 9), (683, .if_icmp .eq 5, 3, 0, 0, 0), (686, .iconst 0, 1, 0, 0, 0), (687, .ireturn, 1, 0, 0, 1)],
  [(688, .iinc 3 5, 3, 5, 0, 0), (691, .goto (-673), 3, 0, 0, 0), (694, .iconst 1, 1, 1, 0, 0), (695, .ireturn, 1, 0, 0, 1)]]
/-- java/lang/Math.floorMod(II)I -/
def pc_157 : List (List (Nat × smI)) := [[(0, .iload_n 0, 1, 0, 0, 0), (1, .iload_n 1, 1, 0, 0, 0), (2, .irem, 1, 0, 0, 0), (3, .istore_n 2, 1, 0, 0, 0), (4, .iload_n 0, 1, 0, 0, 0), (5, .iload_n 1, 1, 0, 0, 0), (6, .ixor, 1, 0, 0, 0), (7, .ifCond .ge 11, 3, 0, 0, 0), (10, .iload_n 2, 1, 0, 0, 0), (11, .ifCond .eq 7, 3, 0, 0, 0), (14, .iload_n 2, 1, 0, 0, 0), (15, .iload_n 1, 1, 0, 0, 0)],
  [(16, .iadd, 1, 0, 0, 0), (17, .ireturn, 1, 0, 0, 0), (18, .iload_n 2, 1, 0, 0, 0), (19, .ireturn, 1, 0, 0, 0)]]
def pp_pc : List (List (List (Nat × smI))) := [pc_0, pc_1, pc_2, pc_3, pc_4, pc_5, pc_6, pc_7, pc_8, pc_9, pc_10, pc_11, pc_12, pc_13, pc_14, pc_15, pc_16, pc_17, pc_18, pc_19, pc_20, pc_21, pc_22, pc_23, pc_24, pc_25, pc_26, pc_27, pc_28, pc_29, pc_30, pc_31, pc_32, pc_33, pc_34, pc_35, pc_36, pc_37, pc_38, pc_39, pc_40, pc_41, pc_42, pc_43, pc_44, pc_45, pc_46, pc_47, pc_48, pc_49, pc_50, pc_51, pc_52, pc_53, pc_54, pc_55, pc_56, pc_57, pc_58, pc_59, pc_60, pc_61, pc_62, pc_63, pc_64, pc_65, pc_66, pc_67, pc_68, pc_69, pc_70, pc_71, pc_72, pc_73, pc_74, pc_75, pc_76, pc_77, pc_78, pc_79, pc_80, pc_81, pc_82, pc_83, pc_84, pc_85, pc_86, pc_87, pc_88, pc_89, pc_90, pc_91, pc_92, pc_93, pc_94, pc_95, pc_96, pc_97, pc_98, pc_99, pc_100, pc_101, pc_102, pc_103, pc_104, pc_105, pc_106, pc_107, pc_108, pc_109, pc_110, pc_111, pc_112, pc_113, pc_114, pc_115, pc_116, pc_117, pc_118, pc_119, pc_120, pc_121, pc_122, pc_123, pc_124, pc_125, pc_126, pc_127, pc_128, pc_129, pc_130, pc_131, pc_132, pc_133, pc_134, pc_135, pc_136, pc_137, pc_138, pc_139, pc_140, pc_141, pc_142, pc_143, pc_144, pc_145, pc_146, pc_147, pc_148, pc_149, pc_150, pc_151, pc_152, pc_153, pc_154, pc_155, pc_156, pc_157]
def pp_tr : List (List (Nat × List Nat)) := [[],
  [],
  [(8, [0, 1, 2]), (24, [0, 1, 2])],
  [(10, [0]), (18, [0])],
  [(11, [1, 2]), (26, [1, 2])],
  [(10, [0])],
  [(14, [])],
  [(9, [])],
  [(17, []), (18, [])],
  [(9, [0, 1, 2])],
  [(8, [])],
  [(6, [0, 1])],
  [(4, [0, 1]), (15, [])],
  [(15, []), (16, [])],
  [(4, [0, 1, 2]), (18, [])],
  [(6, [0, 1, 2, 3, 4, 5]), (12, [0, 1, 2, 3, 4, 5]), (21, [0, 1, 2, 3, 4, 5]), (49, [0, 1, 2, 3, 4, 5])],
  [(4, [0, 1]), (17, [])],
  [(4, [0, 1, 2]), (27, [])],
  [(5, [0, 1, 2]), (9, [0, 1, 2, 3, 4]), (24, [0, 1, 2, 3, 4]), (28, [0, 1, 2, 3, 4])],
  [(22, []), (31, [0, 1, 2]), (38, [0, 1, 2]), (44, [])],
  [(2, [0, 1, 2, 3]), (7, [0, 1, 2, 3]), (17, [0, 1, 2, 3]), (20, [0, 1, 2, 3])],
  [(14, [0, 1, 2]), (21, [0, 1, 2]), (32, [0, 1, 2]), (38, [])],
  [(14, []), (34, []), (48, []), (56, [])],
  [(24, [0, 1]), (36, [0, 1])],
  [],
  [(69, [0, 1]), (90, [0, 1])],
  [(12, [0]), (23, [0]), (34, [0]), (42, [0]), (60, [0]), (71, [])],
  [],
  [(11, []), (22, [0]), (37, [])],
  [],
  [(30, []), (31, [])],
  [(16, []), (17, [])],
  [(5, [0, 1]), (21, []), (47, [0, 1]), (59, []), (68, []), (69, []), (80, []), (83, []), (88, [])],
  [(16, []), (17, [])],
  [(15, []), (18, []), (22, []), (23, [])],
  [(5, [0, 1, 2]), (24, [0, 1, 2]), (35, [0, 1, 2]), (38, [0, 1, 2]), (50, [0, 1, 2]), (57, [0, 1, 2]), (79, [0]), (84, [0]), (98, [])],
  [(25, []), (26, [])],
  [(5, [0, 1]), (18, [])],
  [(5, [0, 1, 2]), (15, [])],
  [(18, [0, 1, 2]), (33, [0, 1, 2]), (36, [0, 1, 2])],
  [(31, [0, 1, 2]), (54, [0, 1, 2]), (69, [0, 1, 2])],
  [(11, [0, 1]), (16, [0]), (26, [0])],
  [],
  [(11, [0]), (18, [])],
  [(2, [0, 1]), (15, [0, 1])],
  [(22, [0, 1, 2, 4]), (42, [0, 1, 2, 4]), (45, [0, 1, 2, 4])],
  [(14, [0, 1]), (30, [0, 1, 2]), (50, [0])],
  [(22, [0]), (38, [0]), (49, [0])],
  [(22, []), (23, [])],
  [(5, [0, 1]), (11, [0, 2]), (43, [0, 2]), (60, [0, 2]), (66, [0])],
  [(8, [0, 1]), (17, [0, 1]), (25, [0])],
  [(5, [0, 1, 2]), (17, []), (38, [])],
  [(9, [0, 3]), (22, [0, 3, 4]), (25, []), (33, [0, 3, 4]), (49, []), (56, [3, 4, 5]), (64, [5])],
  [(8, []), (15, [])],
  [(4, [0, 1, 2]), (17, [0, 1, 2]), (25, [0, 1, 2])],
  [(5, [0, 1]), (17, [0, 1]), (26, []), (31, [])],
  [(9, [0, 1, 2, 3, 4]), (22, [0, 1, 2, 3, 4, 5]), (31, [0, 1, 3, 4, 5]), (34, []), (42, [0, 1, 3, 4, 5]), (54, [0, 1, 3, 4, 5]), (63, [0, 1]), (71, [])],
  [(9, []), (31, [0, 1, 2])],
  [(17, []), (19, [0, 1]), (39, [0, 1, 2])],
  [(18, [0, 1]), (34, [0])],
  [(24, [0]), (31, [0])],
  [(6, []), (19, [])],
  [(9, [0, 1, 2, 3]), (24, [0, 1, 2, 3, 4, 5, 6]), (39, [0, 1, 2, 3, 4, 5, 6]), (48, [0, 1, 2, 3, 4, 5, 6, 7]), (62, [0, 1, 2, 3, 4, 5, 6, 7, 8]), (74, [0, 1, 2, 3, 4, 5, 6, 7, 8]), (106, [0, 1, 2, 3, 4, 5, 6]), (125, [])],
  [(19, [])],
  [(15, [2, 3, 4]), (24, [2, 3, 4]), (34, [2, 3, 4]), (47, [2, 3, 4]), (53, [2, 3, 4])],
  [(8, [0, 1]), (26, [0, 2, 3, 4]), (37, [0, 2, 3, 4]), (73, [0, 2, 3, 4, 5, 6]), (92, [0, 2, 3, 4])],
  [(54, [])],
  [(18, [0, 1, 2, 3, 4, 5]), (35, [0, 1, 2, 3, 4, 5]), (43, [0, 1, 2, 3, 4, 5, 6]), (62, [0, 1, 2, 3, 4, 5, 6, 7]), (79, [0, 1, 2, 3, 4, 5, 6, 7]), (104, [0, 1, 2, 3, 4, 5])],
  [(10, [0, 1, 2, 3]), (50, [0, 1, 2, 3]), (56, [0])],
  [(18, []), (19, [])],
  [(15, [0, 1]), (23, [])],
  [(8, [0, 1, 2]), (52, [0, 1]), (61, []), (62, [0, 1]), (71, []), (72, [0, 1]), (80, []), (81, [0, 1]), (86, []), (90, [0, 1]), (95, []), (99, [0, 1]), (104, []), (108, [])],
  [(9, [3]), (22, [3, 4]), (25, []), (35, [])],
  [(9, [0, 2, 3]), (20, [0, 2, 3, 4]), (23, []), (46, []), (55, [])],
  [(30, []), (32, [])],
  [(4, [0, 1, 2, 3]), (17, [0, 1, 2, 3]), (22, [0, 1, 2, 3]), (30, [0, 1, 2, 3]), (37, [0, 1, 2, 3, 4]), (42, [0, 1, 2, 3, 4]), (54, [0, 1, 2, 3, 4]), (55, [0, 1, 2, 3, 4]), (67, [0, 1, 2, 3]), (70, [0, 1, 2, 3])],
  [(2, [0, 1, 2]), (15, [0, 1, 2])],
  [(30, []), (32, [])],
  [(8, [0, 1, 2, 3]), (24, []), (31, [2, 3]), (39, [3, 4]), (62, []), (72, [])],
  [(4, [0, 1, 2]), (12, []), (27, []), (39, [])],
  [(4, [0, 1, 2, 3]), (30, [0, 1, 2, 3]), (36, [2])],
  [(7, [0, 1, 2]), (28, [0, 1, 2]), (44, [0, 1, 2, 3]), (60, [0, 1, 2]), (70, [])],
  [(5, [0, 1, 2, 3])],
  [(21, [])],
  [(6, [0, 1, 2]), (29, []), (36, [2, 4])],
  [(5, [0, 1, 2, 3, 4]), (22, [0, 1, 2, 3, 4]), (41, [0, 1, 2, 4, 5]), (44, [0, 1, 2, 3, 4])],
  [(2, [0, 1, 2, 3]), (23, [0, 1, 2, 3]), (29, [0, 1, 2]), (48, [0, 1, 2]), (60, [0, 2, 3, 4]), (76, [0, 2, 4]), (91, [0, 2, 3, 4, 5]), (127, [0, 2, 3, 4, 5])],
  [(10, []), (15, [0, 1, 2, 3, 4]), (32, [0, 1, 2, 3, 4]), (54, []), (55, [0, 1, 2, 3, 4])],
  [(11, []), (18, [0, 1, 2]), (48, [0, 1, 3, 4]), (94, [0, 1, 3, 4]), (111, [])],
  [(14, [0, 1]), (35, [0, 1, 3]), (52, [0]), (64, [0])],
  [(23, [0, 1]), (24, [0, 1]), (40, [])],
  [(13, [0, 1]), (18, [0, 1]), (33, [0, 1]), (56, [])],
  [(6, [])],
  [(24, []), (25, [])],
  [(2, [0, 1, 2, 3]), (17, [0, 1, 2, 3]), (21, [0, 1, 2, 3])],
  [(8, [0, 1, 3]), (23, [0, 1, 3])],
  [(3, [0, 1, 2, 3, 4]), (29, [0, 1, 2, 3, 4]), (42, [0, 1, 2, 3, 4, 5]), (73, [0, 1, 2, 3, 5]), (99, [0, 1, 2, 3, 4, 5]), (105, [])],
  [(5, [0, 1, 2, 3]), (16, [0, 1, 2, 3]), (39, []), (44, []), (52, [0, 3, 4]), (59, [0, 3, 4, 5, 6]), (78, [0, 3, 4, 5, 6]), (82, [0, 3, 4, 5, 6]), (102, [0, 3, 4, 6]), (104, [0, 3, 4, 5, 6])],
  [(8, [0, 1]), (28, [0, 1]), (50, [])],
  [(8, [0, 1, 2, 3]), (14, [0, 1, 2, 3, 4, 5]), (30, [0, 1, 2, 3, 4, 5]), (34, [0, 1, 2, 3, 4, 5]), (76, [0, 1, 2, 3, 4, 5])],
  [(10, [0, 1, 2, 3, 4, 5, 6]), (25, [0, 1, 2, 3, 4, 5, 6]), (38, [0, 1, 2, 3, 4, 5, 6]), (54, [0, 1, 2, 3, 6, 7]), (62, [0, 1, 2, 3, 4, 5, 6])],
  [(9, [0, 1]), (21, [0, 2]), (48, [])],
  [(9, []), (24, [0, 1])],
  [(9, []), (36, [0]), (51, [0])],
  [(4, [0, 1, 2]), (18, [0, 2])],
  [(44, [0]), (52, [0]), (67, [0]), (81, []), (82, [0]), (90, [0]), (98, [0]), (105, []), (106, [0]), (114, [0]), (122, [])],
  [],
  [(14, []), (15, [])],
  [(8, [0, 1])],
  [],
  [(8, [0]), (17, []), (22, [])],
  [(8, [0]), (17, []), (22, [])],
  [(2, [0, 1]), (19, [0, 1]), (33, [0, 1]), (54, [0, 1]), (55, [0, 1]), (100, [1]), (102, [0, 1]), (108, [0, 1]), (131, [1]), (140, [0, 1, 2]), (157, [0, 1, 2]), (173, [0, 1, 2]), (186, [1]), (192, [])],
  [(3, [0, 1, 2, 3, 4, 5])],
  [(27, [0]), (37, [0]), (60, [0])],
  [(18, [0]), (34, [0]), (48, [0, 2, 3]), (88, [0, 2, 3]), (133, [0])],
  [(13, [])],
  [(5, [0, 1]), (14, [0, 1]), (21, [0, 2])],
  [(17, [])],
  [(5, [0, 1, 2, 3]), (14, [0, 1, 2, 3]), (28, []), (34, []), (41, []), (42, [])],
  [(7, [0, 1, 2, 3]), (17, [0, 3]), (46, []), (53, [0, 4, 5])],
  [(4, [0, 1, 2, 3]), (14, [0, 1, 2, 3]), (19, [0, 1, 2, 3, 4, 5]), (52, [0, 1, 3, 4, 5])],
  [(13, [0, 1, 2, 3, 4]), (25, [0, 1, 2, 3, 4]), (34, [0, 1, 2, 3, 4, 5]), (42, []), (49, [0, 1, 3, 4]), (74, [0, 1, 4, 6]), (88, [])],
  [(19, [0, 1, 2, 3])],
  [(6, [0, 1]), (15, []), (19, [])],
  [(8, [0, 1]), (17, [0, 1]), (23, []), (27, [])],
  [(43, [0])],
  [(136, []), (140, []), (144, []), (148, []), (152, []), (156, []), (160, []), (164, []), (168, []), (172, []), (176, []), (180, []), (184, []), (188, []), (192, []), (196, []), (200, []), (204, []), (208, []), (212, []), (216, []), (220, []), (224, []), (228, []), (232, []), (236, []), (240, []), (244, []), (248, []), (252, []), (256, [])],
  [(28, [0, 1]), (32, [0]), (33, [0, 2])],
  [(24, [0, 1, 2]), (30, [0, 1, 2]), (40, [0, 1, 2]), (50, [0, 2]), (68, [0, 2]), (71, [0, 2]), (92, [])],
  [(5, [0, 2]), (11, [0, 3]), (36, [0, 3, 4, 5, 6]), (70, [0, 3, 4, 5, 6, 7]), (87, [0, 3, 4, 5, 6, 7]), (118, [0, 3, 4, 6, 7]), (119, [0, 3, 4, 6, 7]), (152, [0, 3, 5, 6]), (179, [])],
  [(10, [0, 1]), (21, [2]), (79, []), (84, [])],
  [(5, [0, 2]), (27, [0, 2, 3]), (53, [0, 3, 5, 6, 7]), (110, [0, 3, 5, 6, 7, 8, 9]), (116, [0, 3, 5, 6, 7, 8, 9]), (144, [0, 3, 6, 7])],
  [(5, [0, 1, 2, 3, 4]), (25, [0, 1, 2, 4]), (35, [0, 1, 2, 4]), (45, [0, 1, 2, 4])],
  [(4, [0, 1, 2, 3]), (17, [0, 1, 2, 3]), (37, [0, 1, 2, 3, 4]), (79, [0, 1, 2, 3])],
  [(5, [0, 1, 2]), (14, [0, 1, 2]), (17, []), (33, []), (45, []), (59, []), (65, [0, 1])],
  [(7, [0, 1, 2, 3]), (19, [3]), (28, [])],
  [(5, [0, 1, 2, 3]), (16, [0, 1, 2, 3]), (25, [0, 1, 2, 3]), (28, []), (40, []), (49, [])],
  [(5, [0, 1, 2, 3]), (18, [0, 1, 2, 3]), (21, []), (28, [0, 1, 2, 3]), (39, [0, 1, 2, 3, 4, 5]), (60, [0, 1, 2, 3, 4, 5, 6, 7]), (117, [0, 1, 2, 3, 4, 5, 7]), (121, [0, 1, 2, 3, 4, 5, 7]), (122, [0, 1, 2, 3, 4, 5, 7]), (158, [])],
  [(8, [0, 1, 2]), (16, []), (23, [0, 2]), (54, [])],
  [(2, [0, 1]), (17, [0, 1])],
  [(4, [0, 1, 2]), (24, [0, 1, 2, 3, 4]), (73, [0, 1, 2, 3, 4]), (96, [0, 1, 2, 4]), (125, [])],
  [(20, []), (55, [])],
  [(14, [0, 1, 2, 3, 4, 5]), (55, [0, 1, 2, 3, 4, 5]), (77, [0, 1, 2, 4, 5]), (84, [0, 1, 2, 3]), (120, [])],
  [(26, [0, 1, 2]), (32, [0, 1, 2, 3]), (43, [0, 1, 2, 3]), (61, [0, 1]), (76, [0, 2, 3, 4]), (95, [0, 2, 3, 4, 5]), (123, [0, 2, 3, 4, 5]), (138, [0, 2, 3, 4, 5]), (141, [0, 2, 3, 4, 5])],
  [(4, [0]), (19, []), (26, [])],
  [(10, [0, 1]), (15, [0, 1]), (19, [0, 1]), (31, [2]), (41, [])],
  [(4, [0, 1, 2]), (27, [0, 2]), (32, [0, 2])],
  [(8, [0, 1, 2, 3]), (21, [0, 1, 2, 3, 4, 5]), (72, [0, 1, 2, 3, 4]), (88, [0, 3])],
  [(2, [0, 1, 2]), (23, [0, 1, 2]), (32, [0, 1, 2]), (52, [0, 1, 2])],
  [(5, [0, 1]), (14, [0, 1]), (37, [0, 1, 2]), (50, []), (61, []), (67, [0, 1, 2, 3]), (77, [0, 1, 2, 3, 4, 5, 6]), (110, [0, 1, 2, 3, 4, 5, 6, 7]), (135, [0, 1, 2, 3, 4, 5, 6]), (154, [])],
  [(2, [0, 1, 2, 3]), (30, [0, 1, 2, 3, 4]), (58, [0, 1, 2, 3, 4]), (102, [0, 1, 2, 4])],
  [(5, [0, 1]), (15, [0, 1]), (20, [0, 1]), (32, [0, 1, 2, 3, 4, 5]), (76, [0, 1, 2, 3, 4, 5]), (91, [0, 1, 2, 4, 5, 6]), (106, [0, 1, 2, 3, 5]), (108, [0, 1, 2, 3, 4, 5]), (114, [3])],
  [(6, [0, 1]), (31, [0, 1])],
  [(6, [0, 1]), (43, [0])],
  [(14, [0, 1, 2, 3]), (18, [0, 1, 2, 3]), (21, [0, 1, 2, 3, 4]), (48, [0, 1, 3, 4]), (57, [0, 1, 2, 4]), (108, [0]), (115, [2]), (117, [0]), (124, [0]), (131, [3]), (133, [0]), (138, [0]), (143, [])],
  [(7, [0]), (15, [0, 1]), (18, [0, 1, 2, 3]), (128, [0, 1, 2, 3]), (137, [0, 1, 2, 3]), (146, [0, 1, 2, 3]), (151, [0, 1, 2, 3]), (155, [0, 1, 2, 3]), (159, [0, 1, 2, 3]), (164, [0, 1, 2, 3]), (168, [0, 1, 2, 3]), (172, [0, 1, 2, 3]), (177, [0, 1, 2, 3]), (186, [0, 1, 2, 3]), (195, [0, 1, 2, 3]), (200, [0, 1, 2, 3]), (219, [0, 1, 2, 3]), (238, [0, 1, 2, 3]), (243, [0, 1, 2, 3]), (267, [0, 1, 2, 3]), (291, [0, 1, 2, 3]), (296, [0, 1, 2, 3]), (305, [0, 1, 2, 3]), (314, [0, 1, 2, 3]), (319, [0, 1, 2, 3]), (328, [0, 1, 2, 3]), (337, [0, 1, 2, 3]), (342, [0, 1, 2, 3]), (346, [0, 1, 2, 3]), (350, [0, 1, 2, 3]), (355, [0, 1, 2, 3]), (369, [0, 1, 2, 3]), (383, [0, 1, 2, 3]), (388, [0, 1, 2, 3]), (407, [0, 1, 2, 3]), (426, [0, 1, 2, 3]), (431, [0, 1, 2, 3]), (450, [0, 1, 2, 3]), (469, [0, 1, 2, 3]), (474, [0, 1, 2, 3]), (493, [0, 1, 2, 3]), (512, [0, 1, 2, 3]), (517, [0, 1, 2, 3]), (531, [0, 1, 2, 3]), (545, [0, 1, 2, 3]), (550, [0, 1, 2, 3]), (559, [0, 1, 2, 3]), (568, [0, 1, 2, 3]), (573, [0, 1, 2, 3]), (582, [0, 1, 2, 3]), (591, [0, 1, 2, 3]), (596, [0, 1, 2, 3]), (605, [0, 1, 2, 3]), (614, [0, 1, 2, 3]), (619, [0, 1, 2, 3]), (628, [0, 1, 2, 3]), (637, [0, 1, 2, 3]), (642, [0, 1, 2, 3]), (651, [0, 1, 2, 3]), (660, [0, 1, 2, 3]), (665, [0, 1, 2, 3]), (674, [0, 1, 2, 3]), (683, [0, 1, 2, 3]), (688, [0, 1, 2, 3])],
  [(18, [2])]]
def pp_nm : List MethodName := [⟨"WornSums$Text", "<init>", "()V"⟩,
  ⟨"WornSums$Row", "<init>", "(I)V"⟩,
  ⟨"WornSums$Sheet", "newRows", "(I)[LWornSums$Row;"⟩,
  ⟨"WornSums$Sheet", "<init>", "()V"⟩,
  ⟨"WornSums", "newSheets", "(I)[LWornSums$Sheet;"⟩,
  ⟨"WornSums$History", "<init>", "()V"⟩,
  ⟨"java/lang/String", "coder", "()B"⟩,
  ⟨"java/lang/String", "length", "()I"⟩,
  ⟨"java/lang/String", "isLatin1", "()Z"⟩,
  ⟨"jdk/internal/util/Preconditions", "checkIndex", "(IILjava/util/function/BiFunction;)I"⟩,
  ⟨"java/lang/String", "checkIndex", "(II)V"⟩,
  ⟨"java/lang/StringLatin1", "charAt", "([BI)C"⟩,
  ⟨"java/lang/String", "charAt", "(I)C"⟩,
  ⟨"WornSums", "isNumber", "(I)Z"⟩,
  ⟨"WornSums$NumberWords", "addSign", "(IC)V"⟩,
  ⟨"WornSums$NumberWords", "addName", "(ILjava/lang/String;I)V"⟩,
  ⟨"WornSums$NumberWords", "lengthOf", "(I)I"⟩,
  ⟨"WornSums$NumberWords", "at", "(II)I"⟩,
  ⟨"WornSums$NumberWords", "addNumber", "(II)V"⟩,
  ⟨"WornSums$NumberWords", "writeTens", "(I)V"⟩,
  ⟨"WornSums$NumberWords", "addAll", "(ILjava/lang/String;)V"⟩,
  ⟨"WornSums$NumberWords", "writeHundreds", "(I)V"⟩,
  ⟨"WornSums$NumberWords", "write", "(I)V"⟩,
  ⟨"WornSums$NumberWords", "<init>", "()V"⟩,
  ⟨"WornSums$Agreeing", "<init>", "()V"⟩,
  ⟨"WornSums$Findings", "<init>", "()V"⟩,
  ⟨"WornSums", "<init>", "()V"⟩,
  ⟨"WornSums$Text", "add", "(C)Z"⟩,
  ⟨"WornSums", "type", "(I)I"⟩,
  ⟨"WornSums", "clear", "()I"⟩,
  ⟨"WornSums$Text", "at", "(I)C"⟩,
  ⟨"WornSums", "isLetter", "(I)Z"⟩,
  ⟨"WornSums$Text", "standsInWords", "(I)Z"⟩,
  ⟨"WornSums", "isFigureSign", "(I)Z"⟩,
  ⟨"WornSums$Text", "standsInFigures", "(IC)Z"⟩,
  ⟨"WornSums$Text", "fault", "()I"⟩,
  ⟨"WornSums$Row", "hasPlace", "(I)Z"⟩,
  ⟨"WornSums$Row", "at", "(I)C"⟩,
  ⟨"WornSums$Row", "put", "(IC)V"⟩,
  ⟨"WornSums$Row", "copyFrom", "(LWornSums$Row;)V"⟩,
  ⟨"WornSums$Sheet", "copyFrom", "(LWornSums$Sheet;)V"⟩,
  ⟨"WornSums$History", "remember", "(LWornSums$Sheet;)V"⟩,
  ⟨"WornSums$Findings", "forget", "()V"⟩,
  ⟨"WornSums", "startChange", "()V"⟩,
  ⟨"WornSums$Text", "equalsPlace", "()I"⟩,
  ⟨"WornSums$Row", "takeFrom", "(LWornSums$Text;II)V"⟩,
  ⟨"WornSums$Sheet", "addEntry", "(LWornSums$Text;)V"⟩,
  ⟨"WornSums", "tells", "()I"⟩,
  ⟨"WornSums$Sheet", "hasEntry", "(I)Z"⟩,
  ⟨"WornSums$Sheet", "removeEntry", "(I)V"⟩,
  ⟨"WornSums", "drops", "(I)I"⟩,
  ⟨"WornSums$Sheet", "rowOf", "(II)LWornSums$Row;"⟩,
  ⟨"WornSums", "wears", "(III)I"⟩,
  ⟨"WornSums", "canBeMadeOut", "(II)Z"⟩,
  ⟨"WornSums$Row", "worn", "()I"⟩,
  ⟨"WornSums$Sheet", "wornIn", "(I)I"⟩,
  ⟨"WornSums", "makes", "(IIII)I"⟩,
  ⟨"WornSums", "slacks", "(I)I"⟩,
  ⟨"WornSums", "totals", "(I)I"⟩,
  ⟨"WornSums$History", "takeBack", "(LWornSums$Sheet;)V"⟩,
  ⟨"WornSums", "undo", "()I"⟩,
  ⟨"WornSums$Sheet", "lengthOf", "(II)I"⟩,
  ⟨"WornSums$NumberWords", "doubtOf", "(LWornSums$Row;II)I"⟩,
  ⟨"WornSums$Figures", "lengthOf", "(I)I"⟩,
  ⟨"WornSums$Figures", "areAlike", "(II)Z"⟩,
  ⟨"WornSums$Figures", "doubtOf", "(LWornSums$Row;I)I"⟩,
  ⟨"WornSums$Agreeing", "add", "(II)V"⟩,
  ⟨"WornSums$Agreeing", "find", "(LWornSums$Row;LWornSums$Row;ILWornSums$NumberWords;)V"⟩,
  ⟨"WornSums$Findings", "refresh", "(LWornSums$Sheet;LWornSums$NumberWords;)V"⟩,
  ⟨"WornSums$Findings", "agreeingAt", "(I)LWornSums$Agreeing;"⟩,
  ⟨"WornSums", "agreeingOf", "(I)LWornSums$Agreeing;"⟩,
  ⟨"WornSums", "entry", "(II)I"⟩,
  ⟨"WornSums", "sign", "(III)I"⟩,
  ⟨"WornSums", "doubt", "(III)I"⟩,
  ⟨"WornSums$Agreeing", "doubtAt", "(I)I"⟩,
  ⟨"WornSums$Agreeing", "rankOf", "(I)I"⟩,
  ⟨"WornSums$Agreeing", "indexOfRank", "(I)I"⟩,
  ⟨"WornSums$Agreeing", "numberAt", "(I)I"⟩,
  ⟨"WornSums", "ranked", "(III)I"⟩,
  ⟨"WornSums", "word", "(II)I"⟩,
  ⟨"WornSums$Findings", "alteredAmong", "(I)I"⟩,
  ⟨"WornSums$Findings", "findLeastOfAnySum", "(I)V"⟩,
  ⟨"java/util/Arrays", "fill", "([II)V"⟩,
  ⟨"WornSums$Agreeing", "highest", "()I"⟩,
  ⟨"WornSums$Findings", "doubtWith", "(LWornSums$Agreeing;I[II)I"⟩,
  ⟨"WornSums$Findings", "leastAt", "(LWornSums$Agreeing;[II)I"⟩,
  ⟨"WornSums$Findings", "fillLeastBySum", "(II)V"⟩,
  ⟨"WornSums$Findings", "lowestOfLeast", "(LWornSums$Agreeing;[I[II)I"⟩,
  ⟨"WornSums$Findings", "findLeastOfTotal", "(II)V"⟩,
  ⟨"WornSums$Findings", "refreshLeast", "(LWornSums$Sheet;LWornSums$NumberWords;)V"⟩,
  ⟨"WornSums$Findings", "leastNumber", "(I)I"⟩,
  ⟨"WornSums", "least", "(I)I"⟩,
  ⟨"WornSums$History", "slotOf", "(I)I"⟩,
  ⟨"WornSums$Findings", "isReached", "(I)Z"⟩,
  ⟨"WornSums$Findings", "isReachedBy", "(LWornSums$Agreeing;I)Z"⟩,
  ⟨"WornSums$Findings", "reachOn", "(LWornSums$Agreeing;I)V"⟩,
  ⟨"WornSums$Findings", "reachWithout", "(III)V"⟩,
  ⟨"WornSums$Findings", "sureNumber", "(III)I"⟩,
  ⟨"WornSums", "sure", "(I)I"⟩,
  ⟨"WornSums$Findings", "mostOfOneLetter", "(LWornSums$Agreeing;ILWornSums$NumberWords;)I"⟩,
  ⟨"WornSums$Findings", "bestPlace", "(LWornSums$Row;LWornSums$Agreeing;LWornSums$NumberWords;)I"⟩,
  ⟨"WornSums", "look", "(I)I"⟩,
  ⟨"WornSums", "keep", "(I)I"⟩,
  ⟨"WornSums", "back", "(I)I"⟩,
  ⟨"WornSums$Sheet", "wornInAll", "()I"⟩,
  ⟨"WornSums", "count", "(I)I"⟩,
  ⟨"WornSumsModel", "<init>", "()V"⟩,
  ⟨"WornSumsModel", "in", "(III)Z"⟩,
  ⟨"WornSumsModel", "type", "(I)I"⟩,
  ⟨"WornSumsModel", "clear", "()I"⟩,
  ⟨"WornSumsModel", "isLetter", "(I)Z"⟩,
  ⟨"WornSumsModel", "isFigure", "(I)Z"⟩,
  ⟨"WornSumsModel", "readText", "()I"⟩,
  ⟨"WornSumsModel", "bring", "([II[III)V"⟩,
  ⟨"WornSumsModel", "note", "()V"⟩,
  ⟨"WornSumsModel", "tells", "()I"⟩,
  ⟨"WornSumsModel", "isEntry", "(I)Z"⟩,
  ⟨"WornSumsModel", "drops", "(I)I"⟩,
  ⟨"WornSumsModel", "partOf", "(II)I"⟩,
  ⟨"WornSumsModel", "isPlace", "(III)Z"⟩,
  ⟨"WornSumsModel", "wears", "(III)I"⟩,
  ⟨"WornSumsModel", "wornIn", "(I)I"⟩,
  ⟨"WornSumsModel", "makes", "(IIII)I"⟩,
  ⟨"WornSumsModel", "change", "(II)I"⟩,
  ⟨"WornSumsModel", "slacks", "(I)I"⟩,
  ⟨"WornSumsModel", "totals", "(I)I"⟩,
  ⟨"WornSumsModel", "undo", "()I"⟩,
  ⟨"WornSumsModel", "lettersOf", "(I)J"⟩,
  ⟨"WornSumsModel", "say", "(I)V"⟩,
  ⟨"WornSumsModel", "spell", "(I)V"⟩,
  ⟨"WornSumsModel", "doubtByWords", "(II)I"⟩,
  ⟨"WornSumsModel", "areAlike", "(II)Z"⟩,
  ⟨"WornSumsModel", "doubtByFigures", "(II)I"⟩,
  ⟨"WornSumsModel", "manyBy", "(II)I"⟩,
  ⟨"WornSumsModel", "findAgreeing", "(I)V"⟩,
  ⟨"WornSumsModel", "entry", "(II)I"⟩,
  ⟨"WornSumsModel", "sign", "(III)I"⟩,
  ⟨"WornSumsModel", "doubt", "(III)I"⟩,
  ⟨"WornSumsModel", "ranked", "(III)I"⟩,
  ⟨"WornSumsModel", "word", "(II)I"⟩,
  ⟨"WornSumsModel", "findAll", "()V"⟩,
  ⟨"WornSumsModel", "findFree", "()I"⟩,
  ⟨"WornSumsModel", "leastAt", "(II)I"⟩,
  ⟨"WornSumsModel", "layLeast", "(II)V"⟩,
  ⟨"WornSumsModel", "findSum", "()I"⟩,
  ⟨"WornSumsModel", "findLeast", "()I"⟩,
  ⟨"WornSumsModel", "least", "(I)I"⟩,
  ⟨"WornSumsModel", "isAltered", "()Z"⟩,
  ⟨"WornSumsModel", "addOther", "(I)V"⟩,
  ⟨"WornSumsModel", "findOthers", "(I)V"⟩,
  ⟨"WornSumsModel", "sure", "(I)I"⟩,
  ⟨"WornSumsModel", "mostAt", "(II)I"⟩,
  ⟨"WornSumsModel", "look", "(I)I"⟩,
  ⟨"WornSumsModel", "keep", "(I)I"⟩,
  ⟨"WornSumsModel", "back", "(I)I"⟩,
  ⟨"WornSumsModel", "count", "(I)I"⟩,
  ⟨"WornSumsLaw", "law", "([I)Z"⟩,
  ⟨"java/lang/Math", "floorMod", "(II)I"⟩]
def pp_by : List ByteArray := [prog_9_method_1_code, prog_7_method_1_code, prog_8_method_2_code, prog_8_method_1_code, prog_1_method_28_code, prog_5_method_1_code, prog_13_method_152_code, prog_13_method_54_code, prog_13_method_154_code, prog_17_method_11_code, prog_13_method_155_code, prog_14_method_2_code, prog_13_method_56_code, prog_1_method_24_code, prog_6_method_8_code, prog_6_method_5_code, prog_6_method_9_code, prog_6_method_10_code, prog_6_method_7_code, prog_6_method_3_code, prog_6_method_6_code, prog_6_method_4_code, prog_6_method_2_code, prog_6_method_1_code, prog_2_method_1_code, prog_4_method_1_code, prog_1_method_1_code, prog_9_method_2_code, prog_1_method_2_code, prog_1_method_3_code, prog_9_method_3_code, prog_1_method_25_code, prog_9_method_5_code, prog_1_method_26_code, prog_9_method_6_code, prog_9_method_4_code, prog_7_method_2_code, prog_7_method_3_code, prog_7_method_4_code, prog_7_method_6_code, prog_8_method_10_code, prog_5_method_2_code, prog_4_method_2_code, prog_1_method_22_code, prog_9_method_7_code, prog_7_method_5_code, prog_8_method_8_code, prog_1_method_4_code, prog_8_method_3_code, prog_8_method_9_code, prog_1_method_5_code, prog_8_method_4_code, prog_1_method_6_code, prog_1_method_27_code, prog_7_method_7_code, prog_8_method_6_code, prog_1_method_7_code, prog_1_method_8_code, prog_1_method_9_code, prog_5_method_3_code, prog_1_method_10_code, prog_8_method_5_code, prog_6_method_11_code, prog_3_method_3_code, prog_3_method_4_code, prog_3_method_2_code, prog_2_method_3_code, prog_2_method_2_code, prog_4_method_3_code, prog_4_method_4_code, prog_1_method_23_code, prog_1_method_11_code, prog_1_method_12_code, prog_1_method_13_code, prog_2_method_5_code, prog_2_method_8_code, prog_2_method_7_code, prog_2_method_4_code, prog_1_method_14_code, prog_1_method_15_code, prog_4_method_5_code, prog_4_method_8_code, prog_16_method_103_code, prog_2_method_6_code, prog_4_method_12_code, prog_4_method_11_code, prog_4_method_10_code, prog_4_method_13_code, prog_4_method_9_code, prog_4_method_6_code, prog_4_method_7_code, prog_1_method_16_code, prog_5_method_4_code, prog_4_method_15_code, prog_4_method_18_code, prog_4_method_17_code, prog_4_method_16_code, prog_4_method_14_code, prog_1_method_17_code, prog_4_method_20_code, prog_4_method_19_code, prog_1_method_18_code, prog_1_method_19_code, prog_1_method_20_code, prog_8_method_7_code, prog_1_method_21_code, prog_11_method_1_code, prog_11_method_2_code, prog_11_method_11_code, prog_11_method_12_code, prog_11_method_8_code, prog_11_method_9_code, prog_11_method_10_code, prog_11_method_3_code, prog_11_method_4_code, prog_11_method_13_code, prog_11_method_14_code, prog_11_method_17_code, prog_11_method_15_code, prog_11_method_16_code, prog_11_method_18_code, prog_11_method_19_code, prog_11_method_20_code, prog_11_method_21_code, prog_11_method_22_code, prog_11_method_23_code, prog_11_method_24_code, prog_11_method_5_code, prog_11_method_6_code, prog_11_method_7_code, prog_11_method_25_code, prog_11_method_26_code, prog_11_method_27_code, prog_11_method_29_code, prog_11_method_28_code, prog_11_method_30_code, prog_11_method_31_code, prog_11_method_32_code, prog_11_method_33_code, prog_11_method_34_code, prog_11_method_37_code, prog_11_method_39_code, prog_11_method_35_code, prog_11_method_36_code, prog_11_method_40_code, prog_11_method_38_code, prog_11_method_41_code, prog_11_method_44_code, prog_11_method_43_code, prog_11_method_42_code, prog_11_method_45_code, prog_11_method_46_code, prog_11_method_47_code, prog_11_method_48_code, prog_11_method_49_code, prog_11_method_50_code, code, prog_12_method_50_code]
def pp_mL : List Nat := [1, 2, 3, 1, 3, 1, 1, 1, 1, 3, 2, 2, 2, 1, 3, 7, 2, 3, 5, 3, 4, 3, 2, 2, 1, 2, 1, 2, 2, 2, 2, 1, 3, 1, 2, 4, 2, 2, 3, 3, 3, 2, 1, 1, 2, 5, 3, 2, 2, 3, 2, 3, 6, 2, 3, 2, 6, 3, 3, 2, 1, 4, 9, 1, 5, 7, 3, 8, 4, 2, 2, 3, 5, 5, 2, 6, 3, 2, 6, 3, 4, 4, 4, 1, 5, 6, 6, 6, 5, 4, 3, 2, 1, 2, 4, 4, 6, 7, 2, 7, 8, 4, 2, 2, 3, 2, 1, 3, 2, 2, 1, 1, 3, 6, 1, 4, 2, 3, 2, 4, 6, 6, 7, 4, 2, 2, 1, 1, 4, 3, 8, 5, 10, 5, 6, 3, 4, 4, 8, 3, 2, 5, 3, 7, 6, 1, 3, 3, 6, 3, 8, 6, 7, 2, 2, 5, 4, 3]
def pp_rt : List (Option FieldType) := [(Option.none : Option Jvm.ClassFile.FieldType), (Option.none : Option Jvm.ClassFile.FieldType), (Option.some (Jvm.ClassFile.FieldType.array (Jvm.ClassFile.FieldType.object "WornSums$Row"))), (Option.none : Option Jvm.ClassFile.FieldType), (Option.some (Jvm.ClassFile.FieldType.array (Jvm.ClassFile.FieldType.object "WornSums$Sheet"))), (Option.none : Option Jvm.ClassFile.FieldType), (Option.some Jvm.ClassFile.FieldType.byte), (Option.some Jvm.ClassFile.FieldType.int), (Option.some Jvm.ClassFile.FieldType.boolean), (Option.some Jvm.ClassFile.FieldType.int), (Option.none : Option Jvm.ClassFile.FieldType), (Option.some Jvm.ClassFile.FieldType.char), (Option.some Jvm.ClassFile.FieldType.char), (Option.some Jvm.ClassFile.FieldType.boolean), (Option.none : Option Jvm.ClassFile.FieldType), (Option.none : Option Jvm.ClassFile.FieldType), (Option.some Jvm.ClassFile.FieldType.int), (Option.some Jvm.ClassFile.FieldType.int), (Option.none : Option Jvm.ClassFile.FieldType), (Option.none : Option Jvm.ClassFile.FieldType), (Option.none : Option Jvm.ClassFile.FieldType), (Option.none : Option Jvm.ClassFile.FieldType), (Option.none : Option Jvm.ClassFile.FieldType), (Option.none : Option Jvm.ClassFile.FieldType), (Option.none : Option Jvm.ClassFile.FieldType), (Option.none : Option Jvm.ClassFile.FieldType), (Option.none : Option Jvm.ClassFile.FieldType), (Option.some Jvm.ClassFile.FieldType.boolean), (Option.some Jvm.ClassFile.FieldType.int), (Option.some Jvm.ClassFile.FieldType.int), (Option.some Jvm.ClassFile.FieldType.char), (Option.some Jvm.ClassFile.FieldType.boolean), (Option.some Jvm.ClassFile.FieldType.boolean), (Option.some Jvm.ClassFile.FieldType.boolean), (Option.some Jvm.ClassFile.FieldType.boolean), (Option.some Jvm.ClassFile.FieldType.int), (Option.some Jvm.ClassFile.FieldType.boolean), (Option.some Jvm.ClassFile.FieldType.char), (Option.none : Option Jvm.ClassFile.FieldType), (Option.none : Option Jvm.ClassFile.FieldType), (Option.none : Option Jvm.ClassFile.FieldType), (Option.none : Option Jvm.ClassFile.FieldType), (Option.none : Option Jvm.ClassFile.FieldType), (Option.none : Option Jvm.ClassFile.FieldType), (Option.some Jvm.ClassFile.FieldType.int), (Option.none : Option Jvm.ClassFile.FieldType), (Option.none : Option Jvm.ClassFile.FieldType), (Option.some Jvm.ClassFile.FieldType.int), (Option.some Jvm.ClassFile.FieldType.boolean), (Option.none : Option Jvm.ClassFile.FieldType), (Option.some Jvm.ClassFile.FieldType.int), (Option.some (Jvm.ClassFile.FieldType.object "WornSums$Row")), (Option.some Jvm.ClassFile.FieldType.int), (Option.some Jvm.ClassFile.FieldType.boolean), (Option.some Jvm.ClassFile.FieldType.int), (Option.some Jvm.ClassFile.FieldType.int), (Option.some Jvm.ClassFile.FieldType.int), (Option.some Jvm.ClassFile.FieldType.int), (Option.some Jvm.ClassFile.FieldType.int), (Option.none : Option Jvm.ClassFile.FieldType), (Option.some Jvm.ClassFile.FieldType.int), (Option.some Jvm.ClassFile.FieldType.int), (Option.some Jvm.ClassFile.FieldType.int), (Option.some Jvm.ClassFile.FieldType.int), (Option.some Jvm.ClassFile.FieldType.boolean), (Option.some Jvm.ClassFile.FieldType.int), (Option.none : Option Jvm.ClassFile.FieldType), (Option.none : Option Jvm.ClassFile.FieldType), (Option.none : Option Jvm.ClassFile.FieldType), (Option.some (Jvm.ClassFile.FieldType.object "WornSums$Agreeing")), (Option.some (Jvm.ClassFile.FieldType.object "WornSums$Agreeing")), (Option.some Jvm.ClassFile.FieldType.int), (Option.some Jvm.ClassFile.FieldType.int), (Option.some Jvm.ClassFile.FieldType.int), (Option.some Jvm.ClassFile.FieldType.int), (Option.some Jvm.ClassFile.FieldType.int), (Option.some Jvm.ClassFile.FieldType.int), (Option.some Jvm.ClassFile.FieldType.int), (Option.some Jvm.ClassFile.FieldType.int), (Option.some Jvm.ClassFile.FieldType.int), (Option.some Jvm.ClassFile.FieldType.int), (Option.none : Option Jvm.ClassFile.FieldType), (Option.none : Option Jvm.ClassFile.FieldType), (Option.some Jvm.ClassFile.FieldType.int), (Option.some Jvm.ClassFile.FieldType.int), (Option.some Jvm.ClassFile.FieldType.int), (Option.none : Option Jvm.ClassFile.FieldType), (Option.some Jvm.ClassFile.FieldType.int), (Option.none : Option Jvm.ClassFile.FieldType), (Option.none : Option Jvm.ClassFile.FieldType), (Option.some Jvm.ClassFile.FieldType.int), (Option.some Jvm.ClassFile.FieldType.int), (Option.some Jvm.ClassFile.FieldType.int), (Option.some Jvm.ClassFile.FieldType.boolean), (Option.some Jvm.ClassFile.FieldType.boolean), (Option.none : Option Jvm.ClassFile.FieldType), (Option.none : Option Jvm.ClassFile.FieldType), (Option.some Jvm.ClassFile.FieldType.int), (Option.some Jvm.ClassFile.FieldType.int), (Option.some Jvm.ClassFile.FieldType.int), (Option.some Jvm.ClassFile.FieldType.int), (Option.some Jvm.ClassFile.FieldType.int), (Option.some Jvm.ClassFile.FieldType.int), (Option.some Jvm.ClassFile.FieldType.int), (Option.some Jvm.ClassFile.FieldType.int), (Option.some Jvm.ClassFile.FieldType.int), (Option.none : Option Jvm.ClassFile.FieldType), (Option.some Jvm.ClassFile.FieldType.boolean), (Option.some Jvm.ClassFile.FieldType.int), (Option.some Jvm.ClassFile.FieldType.int), (Option.some Jvm.ClassFile.FieldType.boolean), (Option.some Jvm.ClassFile.FieldType.boolean), (Option.some Jvm.ClassFile.FieldType.int), (Option.none : Option Jvm.ClassFile.FieldType), (Option.none : Option Jvm.ClassFile.FieldType), (Option.some Jvm.ClassFile.FieldType.int), (Option.some Jvm.ClassFile.FieldType.boolean), (Option.some Jvm.ClassFile.FieldType.int), (Option.some Jvm.ClassFile.FieldType.int), (Option.some Jvm.ClassFile.FieldType.boolean), (Option.some Jvm.ClassFile.FieldType.int), (Option.some Jvm.ClassFile.FieldType.int), (Option.some Jvm.ClassFile.FieldType.int), (Option.some Jvm.ClassFile.FieldType.int), (Option.some Jvm.ClassFile.FieldType.int), (Option.some Jvm.ClassFile.FieldType.int), (Option.some Jvm.ClassFile.FieldType.int), (Option.some Jvm.ClassFile.FieldType.long), (Option.none : Option Jvm.ClassFile.FieldType), (Option.none : Option Jvm.ClassFile.FieldType), (Option.some Jvm.ClassFile.FieldType.int), (Option.some Jvm.ClassFile.FieldType.boolean), (Option.some Jvm.ClassFile.FieldType.int), (Option.some Jvm.ClassFile.FieldType.int), (Option.none : Option Jvm.ClassFile.FieldType), (Option.some Jvm.ClassFile.FieldType.int), (Option.some Jvm.ClassFile.FieldType.int), (Option.some Jvm.ClassFile.FieldType.int), (Option.some Jvm.ClassFile.FieldType.int), (Option.some Jvm.ClassFile.FieldType.int), (Option.none : Option Jvm.ClassFile.FieldType), (Option.some Jvm.ClassFile.FieldType.int), (Option.some Jvm.ClassFile.FieldType.int), (Option.none : Option Jvm.ClassFile.FieldType), (Option.some Jvm.ClassFile.FieldType.int), (Option.some Jvm.ClassFile.FieldType.int), (Option.some Jvm.ClassFile.FieldType.int), (Option.some Jvm.ClassFile.FieldType.boolean), (Option.none : Option Jvm.ClassFile.FieldType), (Option.none : Option Jvm.ClassFile.FieldType), (Option.some Jvm.ClassFile.FieldType.int), (Option.some Jvm.ClassFile.FieldType.int), (Option.some Jvm.ClassFile.FieldType.int), (Option.some Jvm.ClassFile.FieldType.int), (Option.some Jvm.ClassFile.FieldType.int), (Option.some Jvm.ClassFile.FieldType.int), (Option.some Jvm.ClassFile.FieldType.boolean), (Option.some Jvm.ClassFile.FieldType.int)]
def pp_fr : List Nat := [1, 1, 2, 3, 4, 5, 0, 1, 0, 0, 1, 2, 3, 0, 1, 4, 1, 1, 2, 5, 4, 5, 6, 7, 1, 2, 8, 0, 1, 0, 0, 0, 1, 0, 1, 2, 0, 1, 1, 2, 3, 4, 0, 5, 1, 2, 3, 6, 0, 3, 6, 1, 6, 1, 2, 3, 6, 6, 6, 4, 5, 2, 2, 0, 4, 5, 0, 6, 7, 0, 8, 9, 2, 6, 0, 1, 2, 0, 9, 2, 0, 3, 0, 1, 1, 2, 3, 2, 4, 8, 0, 9, 1, 0, 1, 2, 3, 4, 8, 2, 3, 9, 4, 4, 4, 8, 1, 0, 1, 0, 1, 1, 2, 0, 1, 3, 1, 2, 0, 2, 3, 1, 3, 2, 3, 3, 1, 0, 1, 2, 3, 0, 1, 4, 4, 5, 3, 4, 5, 3, 5, 0, 0, 1, 2, 6, 7, 0, 0, 1, 6, 3, 5, 1, 1, 6, 13, 0]
def pp_lo : List Nat := [20, 21, 42, 64, 84, 106, 0, 20, 0, 0, 22, 43, 64, 0, 20, 85, 20, 20, 42, 111, 85, 108, 133, 154, 20, 40, 175, 0, 21, 0, 0, 0, 21, 0, 20, 43, 0, 21, 21, 43, 65, 87, 0, 108, 21, 43, 67, 128, 0, 65, 128, 21, 128, 20, 42, 64, 128, 128, 128, 87, 108, 43, 42, 0, 85, 109, 0, 135, 162, 0, 185, 206, 43, 135, 0, 21, 46, 0, 206, 42, 0, 68, 0, 21, 21, 45, 70, 45, 95, 185, 0, 208, 22, 0, 21, 44, 67, 92, 185, 42, 68, 206, 87, 87, 85, 185, 20, 0, 22, 0, 22, 22, 42, 0, 25, 64, 22, 45, 0, 43, 66, 21, 66, 45, 68, 68, 25, 0, 20, 43, 65, 0, 24, 92, 92, 117, 66, 92, 117, 65, 117, 0, 0, 22, 48, 138, 158, 0, 0, 25, 138, 65, 117, 25, 25, 138, 504, 0]
def pp_ST : List (String × String × String × Value) := [("java/lang/String", "COMPACT_STRINGS", "Z", .int 1), ("jdk/internal/util/Preconditions", "SIOOBE_FORMATTER", "Ljava/util/function/BiFunction;", .retAddr 41)]
def pp_SC : List (String × Nat × String × Nat) := [("WornSums$NumberWords", 23, "zero one two three four five six seven eight nine", 0), ("WornSums$NumberWords", 29, "ten eleven twelve thirteen fourteen fifteen sixteen seventeen eighteen nineteen", 1), ("WornSums$NumberWords", 37, "twenty thirty forty fifty sixty seventy eighty ninety", 2), ("WornSums$NumberWords", 47, " hundred", 3), ("WornSums$NumberWords", 53, " and ", 4), ("WornSums$Figures", 38, "06081738495668", 5)]
def pp_nw : List Cond := [(Jvm.Cond.methodLinkNest "WornSums" (11 : Nat) ({ cls := "WornSums$Text", name := "<init>", desc := "()V" } : Jvm.MethodName) "WornSums"),
  (Jvm.Cond.fieldLinkNest "WornSums" (60 : Nat) "WornSums$Text" "length" "I" "WornSums"),
  (Jvm.Cond.fieldLinkNest "WornSums$Sheet" (65 : Nat) "WornSums$Text" "length" "I" "WornSums"),
  (Jvm.Cond.methodLinkNest "WornSums" (18 : Nat) ({ cls := "WornSums$Sheet", name := "<init>", desc := "()V" } : Jvm.MethodName) "WornSums"),
  (Jvm.Cond.fieldLinkNest "WornSums$Figures" (9 : Nat) "WornSums$Row" "length" "I" "WornSums"),
  (Jvm.Cond.fieldLinkNest "WornSums$Sheet" (45 : Nat) "WornSums$Row" "length" "I" "WornSums"),
  (Jvm.Cond.fieldLinkNest "WornSums$NumberWords" (77 : Nat) "WornSums$Row" "length" "I" "WornSums"),
  (Jvm.Cond.fieldLinkNest "WornSums$Findings" (144 : Nat) "WornSums$Row" "length" "I" "WornSums"),
  (Jvm.Cond.fieldLinkNest "WornSums$Findings" (50 : Nat) "WornSums$Sheet" "words" "[LWornSums$Row;" "WornSums"),
  (Jvm.Cond.fieldLinkNest "WornSums$Findings" (54 : Nat) "WornSums$Sheet" "figures" "[LWornSums$Row;" "WornSums"),
  (Jvm.Cond.fieldLinkNest "WornSums$Findings" (45 : Nat) "WornSums$Sheet" "size" "I" "WornSums"),
  (Jvm.Cond.fieldLinkNest "WornSums" (64 : Nat) "WornSums$Sheet" "size" "I" "WornSums"),
  (Jvm.Cond.fieldLinkNest "WornSums$Findings" (57 : Nat) "WornSums$Sheet" "slack" "I" "WornSums"),
  (Jvm.Cond.fieldLinkNest "WornSums" (111 : Nat) "WornSums$Sheet" "slack" "I" "WornSums"),
  (Jvm.Cond.fieldLinkNest "WornSums$Findings" (79 : Nat) "WornSums$Sheet" "total" "I" "WornSums"),
  (Jvm.Cond.fieldLinkNest "WornSums" (114 : Nat) "WornSums$Sheet" "total" "I" "WornSums"),
  (Jvm.Cond.methodLinkNest "WornSums" (25 : Nat) ({ cls := "WornSums$History", name := "<init>", desc := "()V" } : Jvm.MethodName) "WornSums"),
  (Jvm.Cond.methodLinkNest "WornSums$History" (9 : Nat) ({ cls := "WornSums", name := "newSheets", desc := "(I)[LWornSums$Sheet;" } : Jvm.MethodName) "WornSums"),
  (Jvm.Cond.fieldLinkNest "WornSums" (117 : Nat) "WornSums$History" "size" "I" "WornSums"),
  (Jvm.Cond.methodLinkNest "WornSums$NumberWords" (73 : Nat) ({ cls := "WornSums", name := "isNumber", desc := "(I)Z" } : Jvm.MethodName) "WornSums"),
  (Jvm.Cond.methodLinkNest "WornSums$Findings" (44 : Nat) ({ cls := "WornSums$Agreeing", name := "<init>", desc := "()V" } : Jvm.MethodName) "WornSums"),
  (Jvm.Cond.fieldLinkNest "WornSums$Findings" (64 : Nat) "WornSums$Agreeing" "size" "I" "WornSums"),
  (Jvm.Cond.fieldLinkNest "WornSums" (141 : Nat) "WornSums$Agreeing" "size" "I" "WornSums"),
  (Jvm.Cond.fieldLinkNest "WornSums" (133 : Nat) "WornSums$Agreeing" "byWords" "I" "WornSums"),
  (Jvm.Cond.fieldLinkNest "WornSums" (138 : Nat) "WornSums$Agreeing" "byFigures" "I" "WornSums"),
  (Jvm.Cond.fieldLinkNest "WornSums" (171 : Nat) "WornSums$Findings" "leastDoubt" "I" "WornSums"),
  (Jvm.Cond.methodLinkNest "WornSums$Text" (31 : Nat) ({ cls := "WornSums", name := "isLetter", desc := "(I)Z" } : Jvm.MethodName) "WornSums"),
  (Jvm.Cond.methodLinkNest "WornSums$Text" (34 : Nat) ({ cls := "WornSums", name := "isFigureSign", desc := "(I)Z" } : Jvm.MethodName) "WornSums"),
  (Jvm.Cond.arrayOver (Jvm.ClassFile.FieldType.object "WornSums$Row")),
  (Jvm.Cond.arrayOver (Jvm.ClassFile.FieldType.object "WornSums$Sheet")),
  (Jvm.Cond.arrayOver (Jvm.ClassFile.FieldType.object "WornSums$Agreeing")),
  (Jvm.Cond.arrayOver (Jvm.ClassFile.FieldType.array Jvm.ClassFile.FieldType.int))]
def PP : smP := (fun m => pp_pc.getD m [], fun c k => (pp_ty.getD c []).getD k .int, fun c => pp_df.getD c [], fun c => .object (pp_cn.getD c ""), pp_st, fun m => pp_tr.getD m [])
def PZ : smZ := (tbG, pp_nw, pp_cl, fun m => pp_nm.getD m ⟨"", "", ""⟩, fun m => pp_by.getD m ByteArray.empty, fun m => pp_mL.getD m 0, fun m => pp_rt.getD m none, fun m => (pp_nm.getD m ⟨"", "", ""⟩).cls, fun m => pp_fr.getD m 0, fun m => pp_lo.getD m 0, pp_ST, pp_SC, 158)
