-- ===== PART A: goes FIRST, ahead of the names: the tables' words, and 'selects' of the private methods out of them =====
/-- a private method of a class that the tables say can be made, by its rows of tables_1 -/
def lw_okq (q : MethodName × Nat) : Prop := (q.1.cls ≠ "java/lang/invoke/MethodHandle" ∧ q.1.cls ≠ "java/lang/invoke/VarHandle") ∧ Cond.instantiable q.1.cls q.2 ∈ tables_1 ∧ Cond.privateMethod q.1 ∈ tables_1 ∧ Cond.instanceMethod q.1 ∈ tables_1
theorem lw_p0 : lw_okq (⟨"BrokenFugue$Line", "fill", "(IIII)V"⟩, 2) := ⟨⟨by decide +kernel, by decide +kernel⟩, List.mem_of_getElem? (i := 36) (by decide +kernel), List.mem_of_getElem? (i := 452) (by decide +kernel), List.mem_of_getElem? (i := 453) (by decide +kernel)⟩
theorem lw_p1 : lw_okq (⟨"BrokenFugue$Reader", "scan", "()V"⟩, 16) := ⟨⟨by decide +kernel, by decide +kernel⟩, List.mem_of_getElem? (i := 116) (by decide +kernel), List.mem_of_getElem? (i := 520) (by decide +kernel), List.mem_of_getElem? (i := 521) (by decide +kernel)⟩
theorem lw_p2 : lw_okq (⟨"BrokenFugue$Reader", "scanWord", "()V"⟩, 16) := ⟨⟨by decide +kernel, by decide +kernel⟩, List.mem_of_getElem? (i := 116) (by decide +kernel), List.mem_of_getElem? (i := 528) (by decide +kernel), List.mem_of_getElem? (i := 529) (by decide +kernel)⟩
theorem lw_p3 : lw_okq (⟨"BrokenFugue$Reader", "wordNumber", "()I"⟩, 16) := ⟨⟨by decide +kernel, by decide +kernel⟩, List.mem_of_getElem? (i := 116) (by decide +kernel), List.mem_of_getElem? (i := 532) (by decide +kernel), List.mem_of_getElem? (i := 533) (by decide +kernel)⟩
theorem lw_p4 : lw_okq (⟨"BrokenFugue$Reader", "scanDigits", "()V"⟩, 16) := ⟨⟨by decide +kernel, by decide +kernel⟩, List.mem_of_getElem? (i := 116) (by decide +kernel), List.mem_of_getElem? (i := 588) (by decide +kernel), List.mem_of_getElem? (i := 589) (by decide +kernel)⟩
theorem lw_p5 : lw_okq (⟨"BrokenFugue$Reader", "scanSign", "()V"⟩, 16) := ⟨⟨by decide +kernel, by decide +kernel⟩, List.mem_of_getElem? (i := 116) (by decide +kernel), List.mem_of_getElem? (i := 593) (by decide +kernel), List.mem_of_getElem? (i := 594) (by decide +kernel)⟩
theorem lw_p6 : lw_okq (⟨"BrokenFugue$Reader", "take", "(LBrokenFugue$Rules;)V"⟩, 16) := ⟨⟨by decide +kernel, by decide +kernel⟩, List.mem_of_getElem? (i := 116) (by decide +kernel), List.mem_of_getElem? (i := 600) (by decide +kernel), List.mem_of_getElem? (i := 601) (by decide +kernel)⟩
theorem lw_p7 : lw_okq (⟨"BrokenFugue$Reader", "takeSort", "(LBrokenFugue$Rules;)V"⟩, 16) := ⟨⟨by decide +kernel, by decide +kernel⟩, List.mem_of_getElem? (i := 116) (by decide +kernel), List.mem_of_getElem? (i := 604) (by decide +kernel), List.mem_of_getElem? (i := 605) (by decide +kernel)⟩
theorem lw_p8 : lw_okq (⟨"BrokenFugue$Reader", "refuse", "(I)V"⟩, 16) := ⟨⟨by decide +kernel, by decide +kernel⟩, List.mem_of_getElem? (i := 116) (by decide +kernel), List.mem_of_getElem? (i := 608) (by decide +kernel), List.mem_of_getElem? (i := 609) (by decide +kernel)⟩
theorem lw_p9 : lw_okq (⟨"BrokenFugue$Reader", "takeOne", "(LBrokenFugue$Rules;)V"⟩, 16) := ⟨⟨by decide +kernel, by decide +kernel⟩, List.mem_of_getElem? (i := 116) (by decide +kernel), List.mem_of_getElem? (i := 616) (by decide +kernel), List.mem_of_getElem? (i := 617) (by decide +kernel)⟩
theorem lw_p10 : lw_okq (⟨"BrokenFugue$Reader", "takeOperand", "(LBrokenFugue$Rules;I)V"⟩, 16) := ⟨⟨by decide +kernel, by decide +kernel⟩, List.mem_of_getElem? (i := 116) (by decide +kernel), List.mem_of_getElem? (i := 620) (by decide +kernel), List.mem_of_getElem? (i := 621) (by decide +kernel)⟩
theorem lw_p11 : lw_okq (⟨"BrokenFugue$Reader", "isNameOfSort", "()Z"⟩, 16) := ⟨⟨by decide +kernel, by decide +kernel⟩, List.mem_of_getElem? (i := 116) (by decide +kernel), List.mem_of_getElem? (i := 628) (by decide +kernel), List.mem_of_getElem? (i := 629) (by decide +kernel)⟩
theorem lw_p12 : lw_okq (⟨"BrokenFugue$Reader", "nest", "(II)V"⟩, 16) := ⟨⟨by decide +kernel, by decide +kernel⟩, List.mem_of_getElem? (i := 116) (by decide +kernel), List.mem_of_getElem? (i := 632) (by decide +kernel), List.mem_of_getElem? (i := 633) (by decide +kernel)⟩
theorem lw_p13 : lw_okq (⟨"BrokenFugue$Reader", "hold", "(I)V"⟩, 16) := ⟨⟨by decide +kernel, by decide +kernel⟩, List.mem_of_getElem? (i := 116) (by decide +kernel), List.mem_of_getElem? (i := 636) (by decide +kernel), List.mem_of_getElem? (i := 637) (by decide +kernel)⟩
theorem lw_p14 : lw_okq (⟨"BrokenFugue$Reader", "takeBehind", "(LBrokenFugue$Rules;)V"⟩, 16) := ⟨⟨by decide +kernel, by decide +kernel⟩, List.mem_of_getElem? (i := 116) (by decide +kernel), List.mem_of_getElem? (i := 640) (by decide +kernel), List.mem_of_getElem? (i := 641) (by decide +kernel)⟩
theorem lw_p15 : lw_okq (⟨"BrokenFugue$Reader", "release", "(LBrokenFugue$Rules;I)V"⟩, 16) := ⟨⟨by decide +kernel, by decide +kernel⟩, List.mem_of_getElem? (i := 116) (by decide +kernel), List.mem_of_getElem? (i := 644) (by decide +kernel), List.mem_of_getElem? (i := 645) (by decide +kernel)⟩
def lw_privs_1 : List (MethodName × Nat) := [(⟨"BrokenFugue$Line", "fill", "(IIII)V"⟩, 2), (⟨"BrokenFugue$Reader", "scan", "()V"⟩, 16), (⟨"BrokenFugue$Reader", "scanWord", "()V"⟩, 16), (⟨"BrokenFugue$Reader", "wordNumber", "()I"⟩, 16), (⟨"BrokenFugue$Reader", "scanDigits", "()V"⟩, 16), (⟨"BrokenFugue$Reader", "scanSign", "()V"⟩, 16), (⟨"BrokenFugue$Reader", "take", "(LBrokenFugue$Rules;)V"⟩, 16), (⟨"BrokenFugue$Reader", "takeSort", "(LBrokenFugue$Rules;)V"⟩, 16), (⟨"BrokenFugue$Reader", "refuse", "(I)V"⟩, 16), (⟨"BrokenFugue$Reader", "takeOne", "(LBrokenFugue$Rules;)V"⟩, 16), (⟨"BrokenFugue$Reader", "takeOperand", "(LBrokenFugue$Rules;I)V"⟩, 16), (⟨"BrokenFugue$Reader", "isNameOfSort", "()Z"⟩, 16), (⟨"BrokenFugue$Reader", "nest", "(II)V"⟩, 16), (⟨"BrokenFugue$Reader", "hold", "(I)V"⟩, 16), (⟨"BrokenFugue$Reader", "takeBehind", "(LBrokenFugue$Rules;)V"⟩, 16), (⟨"BrokenFugue$Reader", "release", "(LBrokenFugue$Rules;I)V"⟩, 16)]
theorem lw_r1 : ∀ q ∈ lw_privs_1, lw_okq q := List.forall_mem_cons.mpr ⟨lw_p0, List.forall_mem_cons.mpr ⟨lw_p1, List.forall_mem_cons.mpr ⟨lw_p2, List.forall_mem_cons.mpr ⟨lw_p3, List.forall_mem_cons.mpr ⟨lw_p4, List.forall_mem_cons.mpr ⟨lw_p5, List.forall_mem_cons.mpr ⟨lw_p6, List.forall_mem_cons.mpr ⟨lw_p7, List.forall_mem_cons.mpr ⟨lw_p8, List.forall_mem_cons.mpr ⟨lw_p9, List.forall_mem_cons.mpr ⟨lw_p10, List.forall_mem_cons.mpr ⟨lw_p11, List.forall_mem_cons.mpr ⟨lw_p12, List.forall_mem_cons.mpr ⟨lw_p13, List.forall_mem_cons.mpr ⟨lw_p14, List.forall_mem_cons.mpr ⟨lw_p15, fun _ h => absurd h List.not_mem_nil⟩⟩⟩⟩⟩⟩⟩⟩⟩⟩⟩⟩⟩⟩⟩⟩
theorem lw_p16 : lw_okq (⟨"BrokenFugue$Reader", "shutParenthesis", "(LBrokenFugue$Rules;)V"⟩, 16) := ⟨⟨by decide +kernel, by decide +kernel⟩, List.mem_of_getElem? (i := 116) (by decide +kernel), List.mem_of_getElem? (i := 650) (by decide +kernel), List.mem_of_getElem? (i := 651) (by decide +kernel)⟩
theorem lw_p17 : lw_okq (⟨"BrokenFugue", "isText", "(I)Z"⟩, 12) := ⟨⟨by decide +kernel, by decide +kernel⟩, List.mem_of_getElem? (i := 21) (by decide +kernel), List.mem_of_getElem? (i := 672) (by decide +kernel), List.mem_of_getElem? (i := 673) (by decide +kernel)⟩
theorem lw_p18 : lw_okq (⟨"BrokenFugue$Judge", "askClauses", "(LBrokenFugue$Rules;II)V"⟩, 9) := ⟨⟨by decide +kernel, by decide +kernel⟩, List.mem_of_getElem? (i := 174) (by decide +kernel), List.mem_of_getElem? (i := 701) (by decide +kernel), List.mem_of_getElem? (i := 702) (by decide +kernel)⟩
theorem lw_p19 : lw_okq (⟨"BrokenFugue$Judge", "value", "([III)I"⟩, 9) := ⟨⟨by decide +kernel, by decide +kernel⟩, List.mem_of_getElem? (i := 174) (by decide +kernel), List.mem_of_getElem? (i := 705) (by decide +kernel), List.mem_of_getElem? (i := 706) (by decide +kernel)⟩
theorem lw_p20 : lw_okq (⟨"BrokenFugue", "hasNotes", "(I)Z"⟩, 12) := ⟨⟨by decide +kernel, by decide +kernel⟩, List.mem_of_getElem? (i := 21) (by decide +kernel), List.mem_of_getElem? (i := 736) (by decide +kernel), List.mem_of_getElem? (i := 737) (by decide +kernel)⟩
theorem lw_p21 : lw_okq (⟨"BrokenFugue$Fitter", "singChanges", "(I)V"⟩, 12) := ⟨⟨by decide +kernel, by decide +kernel⟩, List.mem_of_getElem? (i := 213) (by decide +kernel), List.mem_of_getElem? (i := 807) (by decide +kernel), List.mem_of_getElem? (i := 808) (by decide +kernel)⟩
theorem lw_p22 : lw_okq (⟨"BrokenFugue", "learn", "(LBrokenFugue$Steps;II)V"⟩, 12) := ⟨⟨by decide +kernel, by decide +kernel⟩, List.mem_of_getElem? (i := 21) (by decide +kernel), List.mem_of_getElem? (i := 818) (by decide +kernel), List.mem_of_getElem? (i := 819) (by decide +kernel)⟩
theorem lw_p23 : lw_okq (⟨"BrokenFugue", "isEnding", "(III)Z"⟩, 12) := ⟨⟨by decide +kernel, by decide +kernel⟩, List.mem_of_getElem? (i := 21) (by decide +kernel), List.mem_of_getElem? (i := 880) (by decide +kernel), List.mem_of_getElem? (i := 881) (by decide +kernel)⟩
theorem lw_p24 : lw_okq (⟨"BrokenFugue", "worth", "(IIII)I"⟩, 12) := ⟨⟨by decide +kernel, by decide +kernel⟩, List.mem_of_getElem? (i := 21) (by decide +kernel), List.mem_of_getElem? (i := 888) (by decide +kernel), List.mem_of_getElem? (i := 889) (by decide +kernel)⟩
theorem lw_p25 : lw_okq (⟨"BrokenFugue$Maker", "solveNote", "(LBrokenFugue$Rules;I)V"⟩, 11) := ⟨⟨by decide +kernel, by decide +kernel⟩, List.mem_of_getElem? (i := 264) (by decide +kernel), List.mem_of_getElem? (i := 910) (by decide +kernel), List.mem_of_getElem? (i := 911) (by decide +kernel)⟩
theorem lw_p26 : lw_okq (⟨"BrokenFugue$Maker", "singAt", "(II)V"⟩, 11) := ⟨⟨by decide +kernel, by decide +kernel⟩, List.mem_of_getElem? (i := 264) (by decide +kernel), List.mem_of_getElem? (i := 915) (by decide +kernel), List.mem_of_getElem? (i := 916) (by decide +kernel)⟩
theorem lw_p27 : lw_okq (⟨"BrokenFugue$Maker", "pairPrice", "(LBrokenFugue$Rules;I)I"⟩, 11) := ⟨⟨by decide +kernel, by decide +kernel⟩, List.mem_of_getElem? (i := 264) (by decide +kernel), List.mem_of_getElem? (i := 920) (by decide +kernel), List.mem_of_getElem? (i := 921) (by decide +kernel)⟩
theorem lw_p28 : lw_okq (⟨"BrokenFugue", "ordersOf", "(I)I"⟩, 12) := ⟨⟨by decide +kernel, by decide +kernel⟩, List.mem_of_getElem? (i := 21) (by decide +kernel), List.mem_of_getElem? (i := 953) (by decide +kernel), List.mem_of_getElem? (i := 954) (by decide +kernel)⟩
theorem lw_p29 : lw_okq (⟨"BrokenFugue$Binder", "waysTo", "(III)I"⟩, 4) := ⟨⟨by decide +kernel, by decide +kernel⟩, List.mem_of_getElem? (i := 312) (by decide +kernel), List.mem_of_getElem? (i := 982) (by decide +kernel), List.mem_of_getElem? (i := 983) (by decide +kernel)⟩
theorem lw_p30 : lw_okq (⟨"BrokenFugue", "aboutOne", "(I)I"⟩, 12) := ⟨⟨by decide +kernel, by decide +kernel⟩, List.mem_of_getElem? (i := 21) (by decide +kernel), List.mem_of_getElem? (i := 1017) (by decide +kernel), List.mem_of_getElem? (i := 1018) (by decide +kernel)⟩
theorem lw_p31 : lw_okq (⟨"BrokenFugueModel", "lengthOf", "(I)I"⟩, 44) := ⟨⟨by decide +kernel, by decide +kernel⟩, List.mem_of_getElem? (i := 1021) (by decide +kernel), List.mem_of_getElem? (i := 1179) (by decide +kernel), List.mem_of_getElem? (i := 1180) (by decide +kernel)⟩
def lw_privs_2 : List (MethodName × Nat) := [(⟨"BrokenFugue$Reader", "shutParenthesis", "(LBrokenFugue$Rules;)V"⟩, 16), (⟨"BrokenFugue", "isText", "(I)Z"⟩, 12), (⟨"BrokenFugue$Judge", "askClauses", "(LBrokenFugue$Rules;II)V"⟩, 9), (⟨"BrokenFugue$Judge", "value", "([III)I"⟩, 9), (⟨"BrokenFugue", "hasNotes", "(I)Z"⟩, 12), (⟨"BrokenFugue$Fitter", "singChanges", "(I)V"⟩, 12), (⟨"BrokenFugue", "learn", "(LBrokenFugue$Steps;II)V"⟩, 12), (⟨"BrokenFugue", "isEnding", "(III)Z"⟩, 12), (⟨"BrokenFugue", "worth", "(IIII)I"⟩, 12), (⟨"BrokenFugue$Maker", "solveNote", "(LBrokenFugue$Rules;I)V"⟩, 11), (⟨"BrokenFugue$Maker", "singAt", "(II)V"⟩, 11), (⟨"BrokenFugue$Maker", "pairPrice", "(LBrokenFugue$Rules;I)I"⟩, 11), (⟨"BrokenFugue", "ordersOf", "(I)I"⟩, 12), (⟨"BrokenFugue$Binder", "waysTo", "(III)I"⟩, 4), (⟨"BrokenFugue", "aboutOne", "(I)I"⟩, 12), (⟨"BrokenFugueModel", "lengthOf", "(I)I"⟩, 44)]
theorem lw_r2 : ∀ q ∈ lw_privs_2, lw_okq q := List.forall_mem_cons.mpr ⟨lw_p16, List.forall_mem_cons.mpr ⟨lw_p17, List.forall_mem_cons.mpr ⟨lw_p18, List.forall_mem_cons.mpr ⟨lw_p19, List.forall_mem_cons.mpr ⟨lw_p20, List.forall_mem_cons.mpr ⟨lw_p21, List.forall_mem_cons.mpr ⟨lw_p22, List.forall_mem_cons.mpr ⟨lw_p23, List.forall_mem_cons.mpr ⟨lw_p24, List.forall_mem_cons.mpr ⟨lw_p25, List.forall_mem_cons.mpr ⟨lw_p26, List.forall_mem_cons.mpr ⟨lw_p27, List.forall_mem_cons.mpr ⟨lw_p28, List.forall_mem_cons.mpr ⟨lw_p29, List.forall_mem_cons.mpr ⟨lw_p30, List.forall_mem_cons.mpr ⟨lw_p31, fun _ h => absurd h List.not_mem_nil⟩⟩⟩⟩⟩⟩⟩⟩⟩⟩⟩⟩⟩⟩⟩⟩
theorem lw_p32 : lw_okq (⟨"BrokenFugueModel", "beatsOf", "(I)I"⟩, 44) := ⟨⟨by decide +kernel, by decide +kernel⟩, List.mem_of_getElem? (i := 1021) (by decide +kernel), List.mem_of_getElem? (i := 1197) (by decide +kernel), List.mem_of_getElem? (i := 1198) (by decide +kernel)⟩
theorem lw_p33 : lw_okq (⟨"BrokenFugueModel", "four", "(I)V"⟩, 44) := ⟨⟨by decide +kernel, by decide +kernel⟩, List.mem_of_getElem? (i := 1021) (by decide +kernel), List.mem_of_getElem? (i := 1213) (by decide +kernel), List.mem_of_getElem? (i := 1214) (by decide +kernel)⟩
theorem lw_p34 : lw_okq (⟨"BrokenFugueModel", "readText", "()I"⟩, 44) := ⟨⟨by decide +kernel, by decide +kernel⟩, List.mem_of_getElem? (i := 1021) (by decide +kernel), List.mem_of_getElem? (i := 1225) (by decide +kernel), List.mem_of_getElem? (i := 1226) (by decide +kernel)⟩
theorem lw_p35 : lw_okq (⟨"BrokenFugueModel", "nextToken", "()V"⟩, 44) := ⟨⟨by decide +kernel, by decide +kernel⟩, List.mem_of_getElem? (i := 1021) (by decide +kernel), List.mem_of_getElem? (i := 1229) (by decide +kernel), List.mem_of_getElem? (i := 1230) (by decide +kernel)⟩
theorem lw_p36 : lw_okq (⟨"BrokenFugueModel", "byteAt", "(I)I"⟩, 44) := ⟨⟨by decide +kernel, by decide +kernel⟩, List.mem_of_getElem? (i := 1021) (by decide +kernel), List.mem_of_getElem? (i := 1233) (by decide +kernel), List.mem_of_getElem? (i := 1234) (by decide +kernel)⟩
theorem lw_p37 : lw_okq (⟨"BrokenFugueModel", "clause", "()I"⟩, 44) := ⟨⟨by decide +kernel, by decide +kernel⟩, List.mem_of_getElem? (i := 1021) (by decide +kernel), List.mem_of_getElem? (i := 1244) (by decide +kernel), List.mem_of_getElem? (i := 1245) (by decide +kernel)⟩
theorem lw_p38 : lw_okq (⟨"BrokenFugueModel", "sortOf", "()I"⟩, 44) := ⟨⟨by decide +kernel, by decide +kernel⟩, List.mem_of_getElem? (i := 1021) (by decide +kernel), List.mem_of_getElem? (i := 1248) (by decide +kernel), List.mem_of_getElem? (i := 1249) (by decide +kernel)⟩
theorem lw_p39 : lw_okq (⟨"BrokenFugueModel", "isWord", "(J)Z"⟩, 44) := ⟨⟨by decide +kernel, by decide +kernel⟩, List.mem_of_getElem? (i := 1021) (by decide +kernel), List.mem_of_getElem? (i := 1258) (by decide +kernel), List.mem_of_getElem? (i := 1259) (by decide +kernel)⟩
theorem lw_p40 : lw_okq (⟨"BrokenFugueModel", "priced", "(I)I"⟩, 44) := ⟨⟨by decide +kernel, by decide +kernel⟩, List.mem_of_getElem? (i := 1021) (by decide +kernel), List.mem_of_getElem? (i := 1268) (by decide +kernel), List.mem_of_getElem? (i := 1269) (by decide +kernel)⟩
theorem lw_p41 : lw_okq (⟨"BrokenFugueModel", "summed", "()I"⟩, 44) := ⟨⟨by decide +kernel, by decide +kernel⟩, List.mem_of_getElem? (i := 1021) (by decide +kernel), List.mem_of_getElem? (i := 1272) (by decide +kernel), List.mem_of_getElem? (i := 1273) (by decide +kernel)⟩
theorem lw_p42 : lw_okq (⟨"BrokenFugueModel", "goesOn", "()Z"⟩, 44) := ⟨⟨by decide +kernel, by decide +kernel⟩, List.mem_of_getElem? (i := 1021) (by decide +kernel), List.mem_of_getElem? (i := 1276) (by decide +kernel), List.mem_of_getElem? (i := 1277) (by decide +kernel)⟩
theorem lw_p43 : lw_okq (⟨"BrokenFugueModel", "hasParen", "()Z"⟩, 44) := ⟨⟨by decide +kernel, by decide +kernel⟩, List.mem_of_getElem? (i := 1021) (by decide +kernel), List.mem_of_getElem? (i := 1280) (by decide +kernel), List.mem_of_getElem? (i := 1281) (by decide +kernel)⟩
theorem lw_p44 : lw_okq (⟨"BrokenFugueModel", "behindOne", "()I"⟩, 44) := ⟨⟨by decide +kernel, by decide +kernel⟩, List.mem_of_getElem? (i := 1021) (by decide +kernel), List.mem_of_getElem? (i := 1284) (by decide +kernel), List.mem_of_getElem? (i := 1285) (by decide +kernel)⟩
theorem lw_p45 : lw_okq (⟨"BrokenFugueModel", "settle", "(I)V"⟩, 44) := ⟨⟨by decide +kernel, by decide +kernel⟩, List.mem_of_getElem? (i := 1021) (by decide +kernel), List.mem_of_getElem? (i := 1288) (by decide +kernel), List.mem_of_getElem? (i := 1289) (by decide +kernel)⟩
theorem lw_p46 : lw_okq (⟨"BrokenFugueModel", "emit", "(II)V"⟩, 44) := ⟨⟨by decide +kernel, by decide +kernel⟩, List.mem_of_getElem? (i := 1021) (by decide +kernel), List.mem_of_getElem? (i := 1292) (by decide +kernel), List.mem_of_getElem? (i := 1293) (by decide +kernel)⟩
theorem lw_p47 : lw_okq (⟨"BrokenFugueModel", "push", "(I)V"⟩, 44) := ⟨⟨by decide +kernel, by decide +kernel⟩, List.mem_of_getElem? (i := 1021) (by decide +kernel), List.mem_of_getElem? (i := 1296) (by decide +kernel), List.mem_of_getElem? (i := 1297) (by decide +kernel)⟩
def lw_privs_3 : List (MethodName × Nat) := [(⟨"BrokenFugueModel", "beatsOf", "(I)I"⟩, 44), (⟨"BrokenFugueModel", "four", "(I)V"⟩, 44), (⟨"BrokenFugueModel", "readText", "()I"⟩, 44), (⟨"BrokenFugueModel", "nextToken", "()V"⟩, 44), (⟨"BrokenFugueModel", "byteAt", "(I)I"⟩, 44), (⟨"BrokenFugueModel", "clause", "()I"⟩, 44), (⟨"BrokenFugueModel", "sortOf", "()I"⟩, 44), (⟨"BrokenFugueModel", "isWord", "(J)Z"⟩, 44), (⟨"BrokenFugueModel", "priced", "(I)I"⟩, 44), (⟨"BrokenFugueModel", "summed", "()I"⟩, 44), (⟨"BrokenFugueModel", "goesOn", "()Z"⟩, 44), (⟨"BrokenFugueModel", "hasParen", "()Z"⟩, 44), (⟨"BrokenFugueModel", "behindOne", "()I"⟩, 44), (⟨"BrokenFugueModel", "settle", "(I)V"⟩, 44), (⟨"BrokenFugueModel", "emit", "(II)V"⟩, 44), (⟨"BrokenFugueModel", "push", "(I)V"⟩, 44)]
theorem lw_r3 : ∀ q ∈ lw_privs_3, lw_okq q := List.forall_mem_cons.mpr ⟨lw_p32, List.forall_mem_cons.mpr ⟨lw_p33, List.forall_mem_cons.mpr ⟨lw_p34, List.forall_mem_cons.mpr ⟨lw_p35, List.forall_mem_cons.mpr ⟨lw_p36, List.forall_mem_cons.mpr ⟨lw_p37, List.forall_mem_cons.mpr ⟨lw_p38, List.forall_mem_cons.mpr ⟨lw_p39, List.forall_mem_cons.mpr ⟨lw_p40, List.forall_mem_cons.mpr ⟨lw_p41, List.forall_mem_cons.mpr ⟨lw_p42, List.forall_mem_cons.mpr ⟨lw_p43, List.forall_mem_cons.mpr ⟨lw_p44, List.forall_mem_cons.mpr ⟨lw_p45, List.forall_mem_cons.mpr ⟨lw_p46, List.forall_mem_cons.mpr ⟨lw_p47, fun _ h => absurd h List.not_mem_nil⟩⟩⟩⟩⟩⟩⟩⟩⟩⟩⟩⟩⟩⟩⟩⟩
theorem lw_p48 : lw_okq (⟨"BrokenFugueModel", "whole", "()V"⟩, 44) := ⟨⟨by decide +kernel, by decide +kernel⟩, List.mem_of_getElem? (i := 1021) (by decide +kernel), List.mem_of_getElem? (i := 1300) (by decide +kernel), List.mem_of_getElem? (i := 1301) (by decide +kernel)⟩
theorem lw_p49 : lw_okq (⟨"BrokenFugueModel", "beginOne", "()I"⟩, 44) := ⟨⟨by decide +kernel, by decide +kernel⟩, List.mem_of_getElem? (i := 1021) (by decide +kernel), List.mem_of_getElem? (i := 1304) (by decide +kernel), List.mem_of_getElem? (i := 1305) (by decide +kernel)⟩
theorem lw_p50 : lw_okq (⟨"BrokenFugueModel", "nameOf", "()I"⟩, 44) := ⟨⟨by decide +kernel, by decide +kernel⟩, List.mem_of_getElem? (i := 1021) (by decide +kernel), List.mem_of_getElem? (i := 1308) (by decide +kernel), List.mem_of_getElem? (i := 1309) (by decide +kernel)⟩
theorem lw_p51 : lw_okq (⟨"BrokenFugueModel", "ofVoices", "()I"⟩, 44) := ⟨⟨by decide +kernel, by decide +kernel⟩, List.mem_of_getElem? (i := 1021) (by decide +kernel), List.mem_of_getElem? (i := 1312) (by decide +kernel), List.mem_of_getElem? (i := 1313) (by decide +kernel)⟩
theorem lw_p52 : lw_okq (⟨"BrokenFugueModel", "isBarred", "(I)Z"⟩, 44) := ⟨⟨by decide +kernel, by decide +kernel⟩, List.mem_of_getElem? (i := 1021) (by decide +kernel), List.mem_of_getElem? (i := 1317) (by decide +kernel), List.mem_of_getElem? (i := 1318) (by decide +kernel)⟩
theorem lw_p53 : lw_okq (⟨"BrokenFugueModel", "either", "()I"⟩, 44) := ⟨⟨by decide +kernel, by decide +kernel⟩, List.mem_of_getElem? (i := 1021) (by decide +kernel), List.mem_of_getElem? (i := 1321) (by decide +kernel), List.mem_of_getElem? (i := 1322) (by decide +kernel)⟩
theorem lw_p54 : lw_okq (⟨"BrokenFugueModel", "asks", "()I"⟩, 44) := ⟨⟨by decide +kernel, by decide +kernel⟩, List.mem_of_getElem? (i := 1021) (by decide +kernel), List.mem_of_getElem? (i := 1325) (by decide +kernel), List.mem_of_getElem? (i := 1326) (by decide +kernel)⟩
theorem lw_p55 : lw_okq (⟨"BrokenFugueModel", "compareOf", "()I"⟩, 44) := ⟨⟨by decide +kernel, by decide +kernel⟩, List.mem_of_getElem? (i := 1021) (by decide +kernel), List.mem_of_getElem? (i := 1329) (by decide +kernel), List.mem_of_getElem? (i := 1330) (by decide +kernel)⟩
theorem lw_p56 : lw_okq (⟨"BrokenFugueModel", "isText", "(I)Z"⟩, 44) := ⟨⟨by decide +kernel, by decide +kernel⟩, List.mem_of_getElem? (i := 1021) (by decide +kernel), List.mem_of_getElem? (i := 1342) (by decide +kernel), List.mem_of_getElem? (i := 1343) (by decide +kernel)⟩
theorem lw_p57 : lw_okq (⟨"BrokenFugueModel", "layPiece", "(I)V"⟩, 44) := ⟨⟨by decide +kernel, by decide +kernel⟩, List.mem_of_getElem? (i := 1021) (by decide +kernel), List.mem_of_getElem? (i := 1346) (by decide +kernel), List.mem_of_getElem? (i := 1347) (by decide +kernel)⟩
theorem lw_p58 : lw_okq (⟨"BrokenFugueModel", "judge", "(III)I"⟩, 44) := ⟨⟨by decide +kernel, by decide +kernel⟩, List.mem_of_getElem? (i := 1021) (by decide +kernel), List.mem_of_getElem? (i := 1350) (by decide +kernel), List.mem_of_getElem? (i := 1351) (by decide +kernel)⟩
theorem lw_p59 : lw_okq (⟨"BrokenFugueModel", "judgePair", "(IIII)V"⟩, 44) := ⟨⟨by decide +kernel, by decide +kernel⟩, List.mem_of_getElem? (i := 1021) (by decide +kernel), List.mem_of_getElem? (i := 1354) (by decide +kernel), List.mem_of_getElem? (i := 1355) (by decide +kernel)⟩
theorem lw_p60 : lw_okq (⟨"BrokenFugueModel", "sounds", "(II)Z"⟩, 44) := ⟨⟨by decide +kernel, by decide +kernel⟩, List.mem_of_getElem? (i := 1021) (by decide +kernel), List.mem_of_getElem? (i := 1358) (by decide +kernel), List.mem_of_getElem? (i := 1359) (by decide +kernel)⟩
theorem lw_p61 : lw_okq (⟨"BrokenFugueModel", "namePair", "(III)V"⟩, 44) := ⟨⟨by decide +kernel, by decide +kernel⟩, List.mem_of_getElem? (i := 1021) (by decide +kernel), List.mem_of_getElem? (i := 1362) (by decide +kernel), List.mem_of_getElem? (i := 1363) (by decide +kernel)⟩
theorem lw_p62 : lw_okq (⟨"BrokenFugueModel", "pitchAt", "(II)I"⟩, 44) := ⟨⟨by decide +kernel, by decide +kernel⟩, List.mem_of_getElem? (i := 1021) (by decide +kernel), List.mem_of_getElem? (i := 1366) (by decide +kernel), List.mem_of_getElem? (i := 1367) (by decide +kernel)⟩
theorem lw_p63 : lw_okq (⟨"BrokenFugueModel", "moves", "(II)I"⟩, 44) := ⟨⟨by decide +kernel, by decide +kernel⟩, List.mem_of_getElem? (i := 1021) (by decide +kernel), List.mem_of_getElem? (i := 1373) (by decide +kernel), List.mem_of_getElem? (i := 1374) (by decide +kernel)⟩
def lw_privs_4 : List (MethodName × Nat) := [(⟨"BrokenFugueModel", "whole", "()V"⟩, 44), (⟨"BrokenFugueModel", "beginOne", "()I"⟩, 44), (⟨"BrokenFugueModel", "nameOf", "()I"⟩, 44), (⟨"BrokenFugueModel", "ofVoices", "()I"⟩, 44), (⟨"BrokenFugueModel", "isBarred", "(I)Z"⟩, 44), (⟨"BrokenFugueModel", "either", "()I"⟩, 44), (⟨"BrokenFugueModel", "asks", "()I"⟩, 44), (⟨"BrokenFugueModel", "compareOf", "()I"⟩, 44), (⟨"BrokenFugueModel", "isText", "(I)Z"⟩, 44), (⟨"BrokenFugueModel", "layPiece", "(I)V"⟩, 44), (⟨"BrokenFugueModel", "judge", "(III)I"⟩, 44), (⟨"BrokenFugueModel", "judgePair", "(IIII)V"⟩, 44), (⟨"BrokenFugueModel", "sounds", "(II)Z"⟩, 44), (⟨"BrokenFugueModel", "namePair", "(III)V"⟩, 44), (⟨"BrokenFugueModel", "pitchAt", "(II)I"⟩, 44), (⟨"BrokenFugueModel", "moves", "(II)I"⟩, 44)]
theorem lw_r4 : ∀ q ∈ lw_privs_4, lw_okq q := List.forall_mem_cons.mpr ⟨lw_p48, List.forall_mem_cons.mpr ⟨lw_p49, List.forall_mem_cons.mpr ⟨lw_p50, List.forall_mem_cons.mpr ⟨lw_p51, List.forall_mem_cons.mpr ⟨lw_p52, List.forall_mem_cons.mpr ⟨lw_p53, List.forall_mem_cons.mpr ⟨lw_p54, List.forall_mem_cons.mpr ⟨lw_p55, List.forall_mem_cons.mpr ⟨lw_p56, List.forall_mem_cons.mpr ⟨lw_p57, List.forall_mem_cons.mpr ⟨lw_p58, List.forall_mem_cons.mpr ⟨lw_p59, List.forall_mem_cons.mpr ⟨lw_p60, List.forall_mem_cons.mpr ⟨lw_p61, List.forall_mem_cons.mpr ⟨lw_p62, List.forall_mem_cons.mpr ⟨lw_p63, fun _ h => absurd h List.not_mem_nil⟩⟩⟩⟩⟩⟩⟩⟩⟩⟩⟩⟩⟩⟩⟩⟩
theorem lw_p64 : lw_okq (⟨"BrokenFugueModel", "beginsAt", "(II)Z"⟩, 44) := ⟨⟨by decide +kernel, by decide +kernel⟩, List.mem_of_getElem? (i := 1021) (by decide +kernel), List.mem_of_getElem? (i := 1377) (by decide +kernel), List.mem_of_getElem? (i := 1378) (by decide +kernel)⟩
theorem lw_p65 : lw_okq (⟨"BrokenFugueModel", "clauses", "(I)I"⟩, 44) := ⟨⟨by decide +kernel, by decide +kernel⟩, List.mem_of_getElem? (i := 1021) (by decide +kernel), List.mem_of_getElem? (i := 1381) (by decide +kernel), List.mem_of_getElem? (i := 1382) (by decide +kernel)⟩
theorem lw_p66 : lw_okq (⟨"BrokenFugueModel", "isSo", "(II)Z"⟩, 44) := ⟨⟨by decide +kernel, by decide +kernel⟩, List.mem_of_getElem? (i := 1021) (by decide +kernel), List.mem_of_getElem? (i := 1388) (by decide +kernel), List.mem_of_getElem? (i := 1389) (by decide +kernel)⟩
theorem lw_p67 : lw_okq (⟨"BrokenFugueModel", "work", "(III)V"⟩, 44) := ⟨⟨by decide +kernel, by decide +kernel⟩, List.mem_of_getElem? (i := 1021) (by decide +kernel), List.mem_of_getElem? (i := 1392) (by decide +kernel), List.mem_of_getElem? (i := 1393) (by decide +kernel)⟩
theorem lw_p68 : lw_okq (⟨"BrokenFugueModel", "priceAt", "(II)I"⟩, 44) := ⟨⟨by decide +kernel, by decide +kernel⟩, List.mem_of_getElem? (i := 1021) (by decide +kernel), List.mem_of_getElem? (i := 1407) (by decide +kernel), List.mem_of_getElem? (i := 1408) (by decide +kernel)⟩
theorem lw_p69 : lw_okq (⟨"BrokenFugueModel", "breakAt", "(IIIII)V"⟩, 44) := ⟨⟨by decide +kernel, by decide +kernel⟩, List.mem_of_getElem? (i := 1021) (by decide +kernel), List.mem_of_getElem? (i := 1412) (by decide +kernel), List.mem_of_getElem? (i := 1413) (by decide +kernel)⟩
theorem lw_p70 : lw_okq (⟨"BrokenFugueModel", "judgeLine", "(III)V"⟩, 44) := ⟨⟨by decide +kernel, by decide +kernel⟩, List.mem_of_getElem? (i := 1021) (by decide +kernel), List.mem_of_getElem? (i := 1416) (by decide +kernel), List.mem_of_getElem? (i := 1417) (by decide +kernel)⟩
theorem lw_p71 : lw_okq (⟨"BrokenFugueModel", "beganAhead", "(II)I"⟩, 44) := ⟨⟨by decide +kernel, by decide +kernel⟩, List.mem_of_getElem? (i := 1021) (by decide +kernel), List.mem_of_getElem? (i := 1420) (by decide +kernel), List.mem_of_getElem? (i := 1421) (by decide +kernel)⟩
theorem lw_p72 : lw_okq (⟨"BrokenFugueModel", "nameLine", "(II)V"⟩, 44) := ⟨⟨by decide +kernel, by decide +kernel⟩, List.mem_of_getElem? (i := 1021) (by decide +kernel), List.mem_of_getElem? (i := 1424) (by decide +kernel), List.mem_of_getElem? (i := 1425) (by decide +kernel)⟩
theorem lw_p73 : lw_okq (⟨"BrokenFugueModel", "areSubjects", "(II)Z"⟩, 44) := ⟨⟨by decide +kernel, by decide +kernel⟩, List.mem_of_getElem? (i := 1021) (by decide +kernel), List.mem_of_getElem? (i := 1436) (by decide +kernel), List.mem_of_getElem? (i := 1437) (by decide +kernel)⟩
theorem lw_p74 : lw_okq (⟨"BrokenFugueModel", "clearSheet", "()V"⟩, 44) := ⟨⟨by decide +kernel, by decide +kernel⟩, List.mem_of_getElem? (i := 1021) (by decide +kernel), List.mem_of_getElem? (i := 1440) (by decide +kernel), List.mem_of_getElem? (i := 1441) (by decide +kernel)⟩
theorem lw_p75 : lw_okq (⟨"BrokenFugueModel", "takeForm", "(IIIIZI)V"⟩, 44) := ⟨⟨by decide +kernel, by decide +kernel⟩, List.mem_of_getElem? (i := 1021) (by decide +kernel), List.mem_of_getElem? (i := 1444) (by decide +kernel), List.mem_of_getElem? (i := 1445) (by decide +kernel)⟩
theorem lw_p76 : lw_okq (⟨"BrokenFugueModel", "takeSubject", "(I)V"⟩, 44) := ⟨⟨by decide +kernel, by decide +kernel⟩, List.mem_of_getElem? (i := 1021) (by decide +kernel), List.mem_of_getElem? (i := 1448) (by decide +kernel), List.mem_of_getElem? (i := 1449) (by decide +kernel)⟩
theorem lw_p77 : lw_okq (⟨"BrokenFugueModel", "liftHeld", "()V"⟩, 44) := ⟨⟨by decide +kernel, by decide +kernel⟩, List.mem_of_getElem? (i := 1021) (by decide +kernel), List.mem_of_getElem? (i := 1452) (by decide +kernel), List.mem_of_getElem? (i := 1453) (by decide +kernel)⟩
theorem lw_p78 : lw_okq (⟨"BrokenFugueModel", "layForm", "(IIIZI)V"⟩, 44) := ⟨⟨by decide +kernel, by decide +kernel⟩, List.mem_of_getElem? (i := 1021) (by decide +kernel), List.mem_of_getElem? (i := 1457) (by decide +kernel), List.mem_of_getElem? (i := 1458) (by decide +kernel)⟩
theorem lw_p79 : lw_okq (⟨"BrokenFugueModel", "isMadeHeld", "(I)Z"⟩, 44) := ⟨⟨by decide +kernel, by decide +kernel⟩, List.mem_of_getElem? (i := 1021) (by decide +kernel), List.mem_of_getElem? (i := 1461) (by decide +kernel), List.mem_of_getElem? (i := 1462) (by decide +kernel)⟩
def lw_privs_5 : List (MethodName × Nat) := [(⟨"BrokenFugueModel", "beginsAt", "(II)Z"⟩, 44), (⟨"BrokenFugueModel", "clauses", "(I)I"⟩, 44), (⟨"BrokenFugueModel", "isSo", "(II)Z"⟩, 44), (⟨"BrokenFugueModel", "work", "(III)V"⟩, 44), (⟨"BrokenFugueModel", "priceAt", "(II)I"⟩, 44), (⟨"BrokenFugueModel", "breakAt", "(IIIII)V"⟩, 44), (⟨"BrokenFugueModel", "judgeLine", "(III)V"⟩, 44), (⟨"BrokenFugueModel", "beganAhead", "(II)I"⟩, 44), (⟨"BrokenFugueModel", "nameLine", "(II)V"⟩, 44), (⟨"BrokenFugueModel", "areSubjects", "(II)Z"⟩, 44), (⟨"BrokenFugueModel", "clearSheet", "()V"⟩, 44), (⟨"BrokenFugueModel", "takeForm", "(IIIIZI)V"⟩, 44), (⟨"BrokenFugueModel", "takeSubject", "(I)V"⟩, 44), (⟨"BrokenFugueModel", "liftHeld", "()V"⟩, 44), (⟨"BrokenFugueModel", "layForm", "(IIIZI)V"⟩, 44), (⟨"BrokenFugueModel", "isMadeHeld", "(I)Z"⟩, 44)]
theorem lw_r5 : ∀ q ∈ lw_privs_5, lw_okq q := List.forall_mem_cons.mpr ⟨lw_p64, List.forall_mem_cons.mpr ⟨lw_p65, List.forall_mem_cons.mpr ⟨lw_p66, List.forall_mem_cons.mpr ⟨lw_p67, List.forall_mem_cons.mpr ⟨lw_p68, List.forall_mem_cons.mpr ⟨lw_p69, List.forall_mem_cons.mpr ⟨lw_p70, List.forall_mem_cons.mpr ⟨lw_p71, List.forall_mem_cons.mpr ⟨lw_p72, List.forall_mem_cons.mpr ⟨lw_p73, List.forall_mem_cons.mpr ⟨lw_p74, List.forall_mem_cons.mpr ⟨lw_p75, List.forall_mem_cons.mpr ⟨lw_p76, List.forall_mem_cons.mpr ⟨lw_p77, List.forall_mem_cons.mpr ⟨lw_p78, List.forall_mem_cons.mpr ⟨lw_p79, fun _ h => absurd h List.not_mem_nil⟩⟩⟩⟩⟩⟩⟩⟩⟩⟩⟩⟩⟩⟩⟩⟩
theorem lw_p80 : lw_okq (⟨"BrokenFugueModel", "prepare", "(II)V"⟩, 44) := ⟨⟨by decide +kernel, by decide +kernel⟩, List.mem_of_getElem? (i := 1021) (by decide +kernel), List.mem_of_getElem? (i := 1474) (by decide +kernel), List.mem_of_getElem? (i := 1475) (by decide +kernel)⟩
theorem lw_p81 : lw_okq (⟨"BrokenFugueModel", "goThrough", "(III)V"⟩, 44) := ⟨⟨by decide +kernel, by decide +kernel⟩, List.mem_of_getElem? (i := 1021) (by decide +kernel), List.mem_of_getElem? (i := 1478) (by decide +kernel), List.mem_of_getElem? (i := 1479) (by decide +kernel)⟩
theorem lw_p82 : lw_okq (⟨"BrokenFugueModel", "layThird", "(III)V"⟩, 44) := ⟨⟨by decide +kernel, by decide +kernel⟩, List.mem_of_getElem? (i := 1021) (by decide +kernel), List.mem_of_getElem? (i := 1493) (by decide +kernel), List.mem_of_getElem? (i := 1494) (by decide +kernel)⟩
theorem lw_p83 : lw_okq (⟨"BrokenFugueModel", "takeChanges", "()I"⟩, 44) := ⟨⟨by decide +kernel, by decide +kernel⟩, List.mem_of_getElem? (i := 1021) (by decide +kernel), List.mem_of_getElem? (i := 1504) (by decide +kernel), List.mem_of_getElem? (i := 1505) (by decide +kernel)⟩
theorem lw_p84 : lw_okq (⟨"BrokenFugueModel", "shuffle", "(II)V"⟩, 44) := ⟨⟨by decide +kernel, by decide +kernel⟩, List.mem_of_getElem? (i := 1021) (by decide +kernel), List.mem_of_getElem? (i := 1508) (by decide +kernel), List.mem_of_getElem? (i := 1509) (by decide +kernel)⟩
theorem lw_p85 : lw_okq (⟨"BrokenFugueModel", "putChanges", "()V"⟩, 44) := ⟨⟨by decide +kernel, by decide +kernel⟩, List.mem_of_getElem? (i := 1021) (by decide +kernel), List.mem_of_getElem? (i := 1512) (by decide +kernel), List.mem_of_getElem? (i := 1513) (by decide +kernel)⟩
theorem lw_p86 : lw_okq (⟨"BrokenFugueModel", "learn", "(I)V"⟩, 44) := ⟨⟨by decide +kernel, by decide +kernel⟩, List.mem_of_getElem? (i := 1021) (by decide +kernel), List.mem_of_getElem? (i := 1523) (by decide +kernel), List.mem_of_getElem? (i := 1524) (by decide +kernel)⟩
theorem lw_p87 : lw_okq (⟨"BrokenFugueModel", "forget", "()V"⟩, 44) := ⟨⟨by decide +kernel, by decide +kernel⟩, List.mem_of_getElem? (i := 1021) (by decide +kernel), List.mem_of_getElem? (i := 1527) (by decide +kernel), List.mem_of_getElem? (i := 1528) (by decide +kernel)⟩
theorem lw_p88 : lw_okq (⟨"BrokenFugueModel", "learnPiece", "(I)V"⟩, 44) := ⟨⟨by decide +kernel, by decide +kernel⟩, List.mem_of_getElem? (i := 1021) (by decide +kernel), List.mem_of_getElem? (i := 1531) (by decide +kernel), List.mem_of_getElem? (i := 1532) (by decide +kernel)⟩
theorem lw_p89 : lw_okq (⟨"BrokenFugueModel", "strangeOf", "(II)I"⟩, 44) := ⟨⟨by decide +kernel, by decide +kernel⟩, List.mem_of_getElem? (i := 1021) (by decide +kernel), List.mem_of_getElem? (i := 1542) (by decide +kernel), List.mem_of_getElem? (i := 1543) (by decide +kernel)⟩
theorem lw_p90 : lw_okq (⟨"BrokenFugueModel", "apartOf", "(II)I"⟩, 44) := ⟨⟨by decide +kernel, by decide +kernel⟩, List.mem_of_getElem? (i := 1021) (by decide +kernel), List.mem_of_getElem? (i := 1562) (by decide +kernel), List.mem_of_getElem? (i := 1563) (by decide +kernel)⟩
theorem lw_p91 : lw_okq (⟨"BrokenFugueModel", "isEnding", "(III)Z"⟩, 44) := ⟨⟨by decide +kernel, by decide +kernel⟩, List.mem_of_getElem? (i := 1021) (by decide +kernel), List.mem_of_getElem? (i := 1574) (by decide +kernel), List.mem_of_getElem? (i := 1575) (by decide +kernel)⟩
theorem lw_p92 : lw_okq (⟨"BrokenFugueModel", "worthOf", "(IIII)I"⟩, 44) := ⟨⟨by decide +kernel, by decide +kernel⟩, List.mem_of_getElem? (i := 1021) (by decide +kernel), List.mem_of_getElem? (i := 1578) (by decide +kernel), List.mem_of_getElem? (i := 1579) (by decide +kernel)⟩
theorem lw_p93 : lw_okq (⟨"BrokenFugueModel", "bestAt", "(IIIIIIII)I"⟩, 44) := ⟨⟨by decide +kernel, by decide +kernel⟩, List.mem_of_getElem? (i := 1021) (by decide +kernel), List.mem_of_getElem? (i := 1586) (by decide +kernel), List.mem_of_getElem? (i := 1587) (by decide +kernel)⟩
theorem lw_p94 : lw_okq (⟨"BrokenFugueModel", "costOf", "(IIIIIIII)I"⟩, 44) := ⟨⟨by decide +kernel, by decide +kernel⟩, List.mem_of_getElem? (i := 1021) (by decide +kernel), List.mem_of_getElem? (i := 1590) (by decide +kernel), List.mem_of_getElem? (i := 1591) (by decide +kernel)⟩
theorem lw_p95 : lw_okq (⟨"BrokenFugueModel", "put", "(III)V"⟩, 44) := ⟨⟨by decide +kernel, by decide +kernel⟩, List.mem_of_getElem? (i := 1021) (by decide +kernel), List.mem_of_getElem? (i := 1594) (by decide +kernel), List.mem_of_getElem? (i := 1595) (by decide +kernel)⟩
def lw_privs_6 : List (MethodName × Nat) := [(⟨"BrokenFugueModel", "prepare", "(II)V"⟩, 44), (⟨"BrokenFugueModel", "goThrough", "(III)V"⟩, 44), (⟨"BrokenFugueModel", "layThird", "(III)V"⟩, 44), (⟨"BrokenFugueModel", "takeChanges", "()I"⟩, 44), (⟨"BrokenFugueModel", "shuffle", "(II)V"⟩, 44), (⟨"BrokenFugueModel", "putChanges", "()V"⟩, 44), (⟨"BrokenFugueModel", "learn", "(I)V"⟩, 44), (⟨"BrokenFugueModel", "forget", "()V"⟩, 44), (⟨"BrokenFugueModel", "learnPiece", "(I)V"⟩, 44), (⟨"BrokenFugueModel", "strangeOf", "(II)I"⟩, 44), (⟨"BrokenFugueModel", "apartOf", "(II)I"⟩, 44), (⟨"BrokenFugueModel", "isEnding", "(III)Z"⟩, 44), (⟨"BrokenFugueModel", "worthOf", "(IIII)I"⟩, 44), (⟨"BrokenFugueModel", "bestAt", "(IIIIIIII)I"⟩, 44), (⟨"BrokenFugueModel", "costOf", "(IIIIIIII)I"⟩, 44), (⟨"BrokenFugueModel", "put", "(III)V"⟩, 44)]
theorem lw_r6 : ∀ q ∈ lw_privs_6, lw_okq q := List.forall_mem_cons.mpr ⟨lw_p80, List.forall_mem_cons.mpr ⟨lw_p81, List.forall_mem_cons.mpr ⟨lw_p82, List.forall_mem_cons.mpr ⟨lw_p83, List.forall_mem_cons.mpr ⟨lw_p84, List.forall_mem_cons.mpr ⟨lw_p85, List.forall_mem_cons.mpr ⟨lw_p86, List.forall_mem_cons.mpr ⟨lw_p87, List.forall_mem_cons.mpr ⟨lw_p88, List.forall_mem_cons.mpr ⟨lw_p89, List.forall_mem_cons.mpr ⟨lw_p90, List.forall_mem_cons.mpr ⟨lw_p91, List.forall_mem_cons.mpr ⟨lw_p92, List.forall_mem_cons.mpr ⟨lw_p93, List.forall_mem_cons.mpr ⟨lw_p94, List.forall_mem_cons.mpr ⟨lw_p95, fun _ h => absurd h List.not_mem_nil⟩⟩⟩⟩⟩⟩⟩⟩⟩⟩⟩⟩⟩⟩⟩⟩
theorem lw_p96 : lw_okq (⟨"BrokenFugueModel", "costAt", "(III)I"⟩, 44) := ⟨⟨by decide +kernel, by decide +kernel⟩, List.mem_of_getElem? (i := 1021) (by decide +kernel), List.mem_of_getElem? (i := 1598) (by decide +kernel), List.mem_of_getElem? (i := 1599) (by decide +kernel)⟩
theorem lw_p97 : lw_okq (⟨"BrokenFugueModel", "cheap", "(III)I"⟩, 44) := ⟨⟨by decide +kernel, by decide +kernel⟩, List.mem_of_getElem? (i := 1021) (by decide +kernel), List.mem_of_getElem? (i := 1602) (by decide +kernel), List.mem_of_getElem? (i := 1603) (by decide +kernel)⟩
theorem lw_p98 : lw_okq (⟨"BrokenFugueModel", "count", "(III)I"⟩, 44) := ⟨⟨by decide +kernel, by decide +kernel⟩, List.mem_of_getElem? (i := 1021) (by decide +kernel), List.mem_of_getElem? (i := 1626) (by decide +kernel), List.mem_of_getElem? (i := 1627) (by decide +kernel)⟩
theorem lw_p99 : lw_okq (⟨"BrokenFugueModel", "bind", "(I)V"⟩, 44) := ⟨⟨by decide +kernel, by decide +kernel⟩, List.mem_of_getElem? (i := 1021) (by decide +kernel), List.mem_of_getElem? (i := 1630) (by decide +kernel), List.mem_of_getElem? (i := 1631) (by decide +kernel)⟩
theorem lw_p100 : lw_okq (⟨"BrokenFugueModel", "isAny", "(II)Z"⟩, 44) := ⟨⟨by decide +kernel, by decide +kernel⟩, List.mem_of_getElem? (i := 1021) (by decide +kernel), List.mem_of_getElem? (i := 1634) (by decide +kernel), List.mem_of_getElem? (i := 1635) (by decide +kernel)⟩
theorem lw_p101 : lw_okq (⟨"BrokenFugueModel", "mayLie", "(III)Z"⟩, 44) := ⟨⟨by decide +kernel, by decide +kernel⟩, List.mem_of_getElem? (i := 1021) (by decide +kernel), List.mem_of_getElem? (i := 1638) (by decide +kernel), List.mem_of_getElem? (i := 1639) (by decide +kernel)⟩
def lw_privs_7 : List (MethodName × Nat) := [(⟨"BrokenFugueModel", "costAt", "(III)I"⟩, 44), (⟨"BrokenFugueModel", "cheap", "(III)I"⟩, 44), (⟨"BrokenFugueModel", "count", "(III)I"⟩, 44), (⟨"BrokenFugueModel", "bind", "(I)V"⟩, 44), (⟨"BrokenFugueModel", "isAny", "(II)Z"⟩, 44), (⟨"BrokenFugueModel", "mayLie", "(III)Z"⟩, 44)]
theorem lw_r7 : ∀ q ∈ lw_privs_7, lw_okq q := List.forall_mem_cons.mpr ⟨lw_p96, List.forall_mem_cons.mpr ⟨lw_p97, List.forall_mem_cons.mpr ⟨lw_p98, List.forall_mem_cons.mpr ⟨lw_p99, List.forall_mem_cons.mpr ⟨lw_p100, List.forall_mem_cons.mpr ⟨lw_p101, fun _ h => absurd h List.not_mem_nil⟩⟩⟩⟩⟩⟩
def lw_privs : List (MethodName × Nat) := lw_privs_1 ++ (lw_privs_2 ++ (lw_privs_3 ++ (lw_privs_4 ++ (lw_privs_5 ++ (lw_privs_6 ++ (lw_privs_7))))))
def lw_tbl : List Cond := k2_sels lw_privs ++ tables_1
theorem lw_privs_ok : ∀ q ∈ lw_privs, lw_okq q := by
  show ∀ q ∈ lw_privs_1 ++ (lw_privs_2 ++ (lw_privs_3 ++ (lw_privs_4 ++ (lw_privs_5 ++ (lw_privs_6 ++ (lw_privs_7)))))), lw_okq q
  exact List.forall_mem_append.mpr ⟨lw_r1, List.forall_mem_append.mpr ⟨lw_r2, List.forall_mem_append.mpr ⟨lw_r3, List.forall_mem_append.mpr ⟨lw_r4, List.forall_mem_append.mpr ⟨lw_r5, List.forall_mem_append.mpr ⟨lw_r6, lw_r7⟩⟩⟩⟩⟩⟩
def RX0 : String := "BrokenFugue$Binder"
def TX0 : u_T := fun k => match k with
  | 0 => ("BrokenFugue$Binder", "judge", "LBrokenFugue$Judge;", true)
  | 1 => ("BrokenFugue$Binder", "ahead", "[I", true)
  | 2 => ("BrokenFugue$Binder", "beside", "[I", true)
  | _ => ("BrokenFugue$Binder", "ways", "[I", true)
def tyX0 : Nat → FieldType := fun k => match k with
  | 0 => .object "BrokenFugue$Judge"
  | 1 => .array .int
  | 2 => .array .int
  | _ => .array .int
abbrev wsX00 : List Cond := u_ws RX0 TX0 4
theorem nmX0 : ∀ a, a < 4 → ∀ b, b < 4 → a ≠ b → (TX0 a).2.1 ≠ (TX0 b).2.1 := by decide +kernel
theorem tyX0_ok : ∀ k, k < 4 → parseFieldDescriptor (TX0 k).2.2.1 = some (tyX0 k) := by decide +kernel
abbrev cX0_init : ByteArray := prog_2_method_1_code
def yX0_init : MethodName := ⟨RX0, "<init>", "()V"⟩
abbrev cX0_link : ByteArray := prog_2_method_2_code
def yX0_link : MethodName := ⟨RX0, "link", "(LBrokenFugue$Rules;LBrokenFugue$State;)V"⟩
abbrev cX0_count : ByteArray := prog_2_method_3_code
def yX0_count : MethodName := ⟨RX0, "count", "(III)I"⟩
abbrev cX0_waysTo : ByteArray := prog_2_method_4_code
def yX0_waysTo : MethodName := ⟨RX0, "waysTo", "(III)I"⟩
def RX1 : String := "BrokenFugue$Fitter"
def TX1 : u_T := fun k => match k with
  | 0 => ("BrokenFugue$Fitter", "judge", "LBrokenFugue$Judge;", true)
  | 1 => ("BrokenFugue$Fitter", "first", "LBrokenFugue$Line;", true)
  | 2 => ("BrokenFugue$Fitter", "second", "LBrokenFugue$Line;", true)
  | 3 => ("BrokenFugue$Fitter", "third", "LBrokenFugue$Line;", true)
  | 4 => ("BrokenFugue$Fitter", "shuffled", "LBrokenFugue$Line;", true)
  | 5 => ("BrokenFugue$Fitter", "changes", "[I", true)
  | 6 => ("BrokenFugue$Fitter", "secondPrices", "[I", true)
  | 7 => ("BrokenFugue$Fitter", "thirdPrices", "[I", true)
  | 8 => ("BrokenFugue$Fitter", "firstPrice", "I", false)
  | 9 => ("BrokenFugue$Fitter", "bestPrice", "I", false)
  | 10 => ("BrokenFugue$Fitter", "bestForm", "I", false)
  | _ => ("BrokenFugue$Fitter", "bestThird", "I", false)
def tyX1 : Nat → FieldType := fun k => match k with
  | 0 => .object "BrokenFugue$Judge"
  | 1 => .object "BrokenFugue$Line"
  | 2 => .object "BrokenFugue$Line"
  | 3 => .object "BrokenFugue$Line"
  | 4 => .object "BrokenFugue$Line"
  | 5 => .array .int
  | 6 => .array .int
  | 7 => .array .int
  | 8 => .int
  | 9 => .int
  | 10 => .int
  | _ => .int
abbrev wsX10 : List Cond := u_ws RX1 TX1 12
theorem nmX1 : ∀ a, a < 12 → ∀ b, b < 12 → a ≠ b → (TX1 a).2.1 ≠ (TX1 b).2.1 := by decide +kernel
theorem tyX1_ok : ∀ k, k < 12 → parseFieldDescriptor (TX1 k).2.2.1 = some (tyX1 k) := by decide +kernel
abbrev cX1_init : ByteArray := prog_3_method_1_code
def yX1_init : MethodName := ⟨RX1, "<init>", "()V"⟩
abbrev cX1_begin : ByteArray := prog_3_method_2_code
def yX1_begin : MethodName := ⟨RX1, "begin", "(LBrokenFugue$Rules;ILBrokenFugue$Line;)V"⟩
abbrev cX1_priceOf : ByteArray := prog_3_method_3_code
def yX1_priceOf : MethodName := ⟨RX1, "priceOf", "(LBrokenFugue$Rules;LBrokenFugue$Line;II)I"⟩
abbrev cX1_findCheapest : ByteArray := prog_3_method_4_code
def yX1_findCheapest : MethodName := ⟨RX1, "findCheapest", "(LBrokenFugue$Rules;LBrokenFugue$Line;I)V"⟩
abbrev cX1_findThree : ByteArray := prog_3_method_5_code
def yX1_findThree : MethodName := ⟨RX1, "findThree", "(LBrokenFugue$Rules;LBrokenFugue$Line;LBrokenFugue$Line;)V"⟩
abbrev cX1_shuffle : ByteArray := prog_3_method_6_code
def yX1_shuffle : MethodName := ⟨RX1, "shuffle", "(LBrokenFugue$Line;I)V"⟩
abbrev cX1_singChanges : ByteArray := prog_3_method_7_code
def yX1_singChanges : MethodName := ⟨RX1, "singChanges", "(I)V"⟩
def RX2 : String := "BrokenFugue$Judge"
def TX2 : u_T := fun k => match k with
  | 0 => ("BrokenFugue$Judge", "names", "[I", true)
  | 1 => ("BrokenFugue$Judge", "stack", "[I", true)
  | 2 => ("BrokenFugue$Judge", "found", "[I", true)
  | 3 => ("BrokenFugue$Judge", "bar", "I", false)
  | 4 => ("BrokenFugue$Judge", "wanted", "I", false)
  | 5 => ("BrokenFugue$Judge", "count", "I", false)
  | 6 => ("BrokenFugue$Judge", "total", "I", false)
  | 7 => ("BrokenFugue$Judge", "firstVoice", "I", false)
  | _ => ("BrokenFugue$Judge", "secondVoice", "I", false)
def tyX2 : Nat → FieldType := fun k => match k with
  | 0 => .array .int
  | 1 => .array .int
  | 2 => .array .int
  | 3 => .int
  | 4 => .int
  | 5 => .int
  | 6 => .int
  | 7 => .int
  | _ => .int
abbrev wsX20 : List Cond := u_ws RX2 TX2 9
theorem nmX2 : ∀ a, a < 9 → ∀ b, b < 9 → a ≠ b → (TX2 a).2.1 ≠ (TX2 b).2.1 := by decide +kernel
theorem tyX2_ok : ∀ k, k < 9 → parseFieldDescriptor (TX2 k).2.2.1 = some (tyX2 k) := by decide +kernel
abbrev cX2_init : ByteArray := prog_4_method_1_code
def yX2_init : MethodName := ⟨RX2, "<init>", "()V"⟩
abbrev cX2_begin : ByteArray := prog_4_method_2_code
def yX2_begin : MethodName := ⟨RX2, "begin", "(II)V"⟩
abbrev cX2_askPiece : ByteArray := prog_4_method_3_code
def yX2_askPiece : MethodName := ⟨RX2, "askPiece", "(LBrokenFugue$Rules;[LBrokenFugue$Line;II)V"⟩
abbrev cX2_askPairs : ByteArray := prog_4_method_4_code
def yX2_askPairs : MethodName := ⟨RX2, "askPairs", "(LBrokenFugue$Rules;LBrokenFugue$Line;LBrokenFugue$Line;I)V"⟩
abbrev cX2_askLines : ByteArray := prog_4_method_5_code
def yX2_askLines : MethodName := ⟨RX2, "askLines", "(LBrokenFugue$Rules;LBrokenFugue$Line;I)V"⟩
abbrev cX2_askPair : ByteArray := prog_4_method_6_code
def yX2_askPair : MethodName := ⟨RX2, "askPair", "(LBrokenFugue$Rules;LBrokenFugue$Line;LBrokenFugue$Line;I)V"⟩
abbrev cX2_askLine : ByteArray := prog_4_method_7_code
def yX2_askLine : MethodName := ⟨RX2, "askLine", "(LBrokenFugue$Rules;LBrokenFugue$Line;I)V"⟩
abbrev cX2_askClauses : ByteArray := prog_4_method_8_code
def yX2_askClauses : MethodName := ⟨RX2, "askClauses", "(LBrokenFugue$Rules;II)V"⟩
abbrev cX2_asksAny : ByteArray := prog_4_method_9_code
def yX2_asksAny : MethodName := ⟨RX2, "asksAny", "(LBrokenFugue$Rules;I)Z"⟩
abbrev cX2_setPages : ByteArray := prog_4_method_10_code
def yX2_setPages : MethodName := ⟨RX2, "setPages", "([III)V"⟩
abbrev cX2_value : ByteArray := prog_4_method_11_code
def yX2_value : MethodName := ⟨RX2, "value", "([III)I"⟩
abbrev cX2_combine : ByteArray := prog_4_method_12_code
def yX2_combine : MethodName := ⟨RX2, "combine", "(IJJ)J"⟩
def RX3 : String := "BrokenFugue$Line"
def TX3 : u_T := fun k => match k with
  | 0 => ("BrokenFugue$Line", "pitch", "[I", true)
  | _ => ("BrokenFugue$Line", "kind", "[I", true)
def tyX3 : Nat → FieldType := fun k => match k with
  | 0 => .array .int
  | _ => .array .int
abbrev wsX30 : List Cond := u_ws RX3 TX3 2
theorem nmX3 : ∀ a, a < 2 → ∀ b, b < 2 → a ≠ b → (TX3 a).2.1 ≠ (TX3 b).2.1 := by decide +kernel
theorem tyX3_ok : ∀ k, k < 2 → parseFieldDescriptor (TX3 k).2.2.1 = some (tyX3 k) := by decide +kernel
abbrev cX3_init : ByteArray := prog_5_method_1_code
def yX3_init : MethodName := ⟨RX3, "<init>", "(I)V"⟩
abbrev cX3_sing : ByteArray := prog_5_method_2_code
def yX3_sing : MethodName := ⟨RX3, "sing", "(III)V"⟩
abbrev cX3_silence : ByteArray := prog_5_method_3_code
def yX3_silence : MethodName := ⟨RX3, "silence", "(II)V"⟩
abbrev cX3_fill : ByteArray := prog_5_method_4_code
def yX3_fill : MethodName := ⟨RX3, "fill", "(IIII)V"⟩
abbrev cX3_beats : ByteArray := prog_5_method_5_code
def yX3_beats : MethodName := ⟨RX3, "beats", "()I"⟩
abbrev cX3_noteAhead : ByteArray := prog_5_method_6_code
def yX3_noteAhead : MethodName := ⟨RX3, "noteAhead", "(I)I"⟩
abbrev cX3_restsAhead : ByteArray := prog_5_method_7_code
def yX3_restsAhead : MethodName := ⟨RX3, "restsAhead", "(I)I"⟩
abbrev cX3_sounds : ByteArray := prog_5_method_8_code
def yX3_sounds : MethodName := ⟨RX3, "sounds", "(I)Z"⟩
abbrev cX3_take : ByteArray := prog_5_method_9_code
def yX3_take : MethodName := ⟨RX3, "take", "(LBrokenFugue$Line;)V"⟩
abbrev cX3_isLike : ByteArray := prog_5_method_10_code
def yX3_isLike : MethodName := ⟨RX3, "isLike", "(LBrokenFugue$Line;I)Z"⟩
abbrev cX3_takeOverturned : ByteArray := prog_5_method_11_code
def yX3_takeOverturned : MethodName := ⟨RX3, "takeOverturned", "(LBrokenFugue$Line;I)Z"⟩
abbrev cX3_takeForm : ByteArray := prog_5_method_12_code
def yX3_takeForm : MethodName := ⟨RX3, "takeForm", "(LBrokenFugue$Line;I)V"⟩
def RX4 : String := "BrokenFugue$Maker"
def TX4 : u_T := fun k => match k with
  | 0 => ("BrokenFugue$Maker", "judge", "LBrokenFugue$Judge;", true)
  | 1 => ("BrokenFugue$Maker", "voices", "[LBrokenFugue$Line;", true)
  | 2 => ("BrokenFugue$Maker", "leasts", "[[I", true)
  | 3 => ("BrokenFugue$Maker", "choices", "[[I", true)
  | 4 => ("BrokenFugue$Maker", "chosen", "[I", true)
  | 5 => ("BrokenFugue$Maker", "voice", "I", false)
  | 6 => ("BrokenFugue$Maker", "from", "I", false)
  | 7 => ("BrokenFugue$Maker", "notes", "I", false)
  | 8 => ("BrokenFugue$Maker", "lowest", "I", false)
  | 9 => ("BrokenFugue$Maker", "many", "I", false)
  | _ => ("BrokenFugue$Maker", "least", "I", false)
def tyX4 : Nat → FieldType := fun k => match k with
  | 0 => .object "BrokenFugue$Judge"
  | 1 => .array (.object "BrokenFugue$Line")
  | 2 => .array (.array .int)
  | 3 => .array (.array .int)
  | 4 => .array .int
  | 5 => .int
  | 6 => .int
  | 7 => .int
  | 8 => .int
  | 9 => .int
  | _ => .int
abbrev wsX40 : List Cond := u_ws RX4 TX4 11
theorem nmX4 : ∀ a, a < 11 → ∀ b, b < 11 → a ≠ b → (TX4 a).2.1 ≠ (TX4 b).2.1 := by decide +kernel
theorem tyX4_ok : ∀ k, k < 11 → parseFieldDescriptor (TX4 k).2.2.1 = some (tyX4 k) := by decide +kernel
abbrev cX4_init : ByteArray := prog_6_method_1_code
def yX4_init : MethodName := ⟨RX4, "<init>", "()V"⟩
abbrev cX4_begin : ByteArray := prog_6_method_2_code
def yX4_begin : MethodName := ⟨RX4, "begin", "(LBrokenFugue$State;III)V"⟩
abbrev cX4_solve : ByteArray := prog_6_method_3_code
def yX4_solve : MethodName := ⟨RX4, "solve", "(LBrokenFugue$Rules;)V"⟩
abbrev cX4_solveNote : ByteArray := prog_6_method_4_code
def yX4_solveNote : MethodName := ⟨RX4, "solveNote", "(LBrokenFugue$Rules;I)V"⟩
abbrev cX4_singAt : ByteArray := prog_6_method_5_code
def yX4_singAt : MethodName := ⟨RX4, "singAt", "(II)V"⟩
abbrev cX4_pairPrice : ByteArray := prog_6_method_6_code
def yX4_pairPrice : MethodName := ⟨RX4, "pairPrice", "(LBrokenFugue$Rules;I)I"⟩
def RX5 : String := "BrokenFugue$Reader"
def TX5 : u_T := fun k => match k with
  | 0 => ("BrokenFugue$Reader", "tape", "[I", true)
  | 1 => ("BrokenFugue$Reader", "waiting", "[I", true)
  | 2 => ("BrokenFugue$Reader", "length", "I", false)
  | 3 => ("BrokenFugue$Reader", "fault", "I", false)
  | 4 => ("BrokenFugue$Reader", "place", "I", false)
  | 5 => ("BrokenFugue$Reader", "next", "I", false)
  | 6 => ("BrokenFugue$Reader", "tokenStart", "I", false)
  | 7 => ("BrokenFugue$Reader", "tokenKind", "I", false)
  | 8 => ("BrokenFugue$Reader", "tokenValue", "I", false)
  | 9 => ("BrokenFugue$Reader", "due", "I", false)
  | 10 => ("BrokenFugue$Reader", "sort", "I", false)
  | 11 => ("BrokenFugue$Reader", "inPrice", "Z", false)
  | 12 => ("BrokenFugue$Reader", "compared", "Z", false)
  | 13 => ("BrokenFugue$Reader", "waitingCount", "I", false)
  | 14 => ("BrokenFugue$Reader", "parentheses", "I", false)
  | _ => ("BrokenFugue$Reader", "around", "I", false)
def tyX5 : Nat → FieldType := fun k => match k with
  | 0 => .array .int
  | 1 => .array .int
  | 2 => .int
  | 3 => .int
  | 4 => .int
  | 5 => .int
  | 6 => .int
  | 7 => .int
  | 8 => .int
  | 9 => .int
  | 10 => .int
  | 11 => .boolean
  | 12 => .boolean
  | 13 => .int
  | 14 => .int
  | _ => .int
abbrev wsX50 : List Cond := u_ws RX5 TX5 16
theorem nmX5 : ∀ a, a < 16 → ∀ b, b < 16 → a ≠ b → (TX5 a).2.1 ≠ (TX5 b).2.1 := by decide +kernel
theorem tyX5_ok : ∀ k, k < 16 → parseFieldDescriptor (TX5 k).2.2.1 = some (tyX5 k) := by decide +kernel
abbrev cX5_init : ByteArray := prog_7_method_1_code
def yX5_init : MethodName := ⟨RX5, "<init>", "()V"⟩
abbrev cX5_append : ByteArray := prog_7_method_2_code
def yX5_append : MethodName := ⟨RX5, "append", "(I)V"⟩
abbrev cX5_read : ByteArray := prog_7_method_3_code
def yX5_read : MethodName := ⟨RX5, "read", "(LBrokenFugue$Rules;)V"⟩
abbrev cX5_take : ByteArray := prog_7_method_4_code
def yX5_take : MethodName := ⟨RX5, "take", "(LBrokenFugue$Rules;)V"⟩
abbrev cX5_refuse : ByteArray := prog_7_method_5_code
def yX5_refuse : MethodName := ⟨RX5, "refuse", "(I)V"⟩
abbrev cX5_takeSort : ByteArray := prog_7_method_6_code
def yX5_takeSort : MethodName := ⟨RX5, "takeSort", "(LBrokenFugue$Rules;)V"⟩
abbrev cX5_takeOne : ByteArray := prog_7_method_7_code
def yX5_takeOne : MethodName := ⟨RX5, "takeOne", "(LBrokenFugue$Rules;)V"⟩
abbrev cX5_isNameOfSort : ByteArray := prog_7_method_8_code
def yX5_isNameOfSort : MethodName := ⟨RX5, "isNameOfSort", "()Z"⟩
abbrev cX5_takeOperand : ByteArray := prog_7_method_9_code
def yX5_takeOperand : MethodName := ⟨RX5, "takeOperand", "(LBrokenFugue$Rules;I)V"⟩
abbrev cX5_nest : ByteArray := prog_7_method_10_code
def yX5_nest : MethodName := ⟨RX5, "nest", "(II)V"⟩
abbrev cX5_hold : ByteArray := prog_7_method_11_code
def yX5_hold : MethodName := ⟨RX5, "hold", "(I)V"⟩
abbrev cX5_release : ByteArray := prog_7_method_12_code
def yX5_release : MethodName := ⟨RX5, "release", "(LBrokenFugue$Rules;I)V"⟩
abbrev cX5_takeBehind : ByteArray := prog_7_method_13_code
def yX5_takeBehind : MethodName := ⟨RX5, "takeBehind", "(LBrokenFugue$Rules;)V"⟩
abbrev cX5_shutParenthesis : ByteArray := prog_7_method_14_code
def yX5_shutParenthesis : MethodName := ⟨RX5, "shutParenthesis", "(LBrokenFugue$Rules;)V"⟩
abbrev cX5_scan : ByteArray := prog_7_method_15_code
def yX5_scan : MethodName := ⟨RX5, "scan", "()V"⟩
abbrev cX5_isLetter : ByteArray := prog_7_method_16_code
def yX5_isLetter : MethodName := ⟨RX5, "isLetter", "(I)Z"⟩
abbrev cX5_isDigit : ByteArray := prog_7_method_17_code
def yX5_isDigit : MethodName := ⟨RX5, "isDigit", "(I)Z"⟩
abbrev cX5_scanDigits : ByteArray := prog_7_method_18_code
def yX5_scanDigits : MethodName := ⟨RX5, "scanDigits", "()V"⟩
abbrev cX5_scanWord : ByteArray := prog_7_method_19_code
def yX5_scanWord : MethodName := ⟨RX5, "scanWord", "()V"⟩
abbrev cX5_wordNumber : ByteArray := prog_7_method_20_code
def yX5_wordNumber : MethodName := ⟨RX5, "wordNumber", "()I"⟩
abbrev cX5_scanSign : ByteArray := prog_7_method_21_code
def yX5_scanSign : MethodName := ⟨RX5, "scanSign", "()V"⟩
abbrev cX5_signKind : ByteArray := prog_7_method_22_code
def yX5_signKind : MethodName := ⟨RX5, "signKind", "(I)I"⟩
def RX6 : String := "BrokenFugue$Rules"
def TX6 : u_T := fun k => match k with
  | 0 => ("BrokenFugue$Rules", "code", "[I", true)
  | 1 => ("BrokenFugue$Rules", "sort", "[I", true)
  | 2 => ("BrokenFugue$Rules", "start", "[I", true)
  | 3 => ("BrokenFugue$Rules", "condition", "[I", true)
  | 4 => ("BrokenFugue$Rules", "stop", "[I", true)
  | 5 => ("BrokenFugue$Rules", "clauses", "I", false)
  | _ => ("BrokenFugue$Rules", "size", "I", false)
def tyX6 : Nat → FieldType := fun k => match k with
  | 0 => .array .int
  | 1 => .array .int
  | 2 => .array .int
  | 3 => .array .int
  | 4 => .array .int
  | 5 => .int
  | _ => .int
abbrev wsX60 : List Cond := u_ws RX6 TX6 7
theorem nmX6 : ∀ a, a < 7 → ∀ b, b < 7 → a ≠ b → (TX6 a).2.1 ≠ (TX6 b).2.1 := by decide +kernel
theorem tyX6_ok : ∀ k, k < 7 → parseFieldDescriptor (TX6 k).2.2.1 = some (tyX6 k) := by decide +kernel
abbrev cX6_init : ByteArray := prog_8_method_1_code
def yX6_init : MethodName := ⟨RX6, "<init>", "()V"⟩
abbrev cX6_emit : ByteArray := prog_8_method_2_code
def yX6_emit : MethodName := ⟨RX6, "emit", "(I)V"⟩
abbrev cX6_open : ByteArray := prog_8_method_3_code
def yX6_open : MethodName := ⟨RX6, "open", "(I)V"⟩
abbrev cX6_beginCondition : ByteArray := prog_8_method_4_code
def yX6_beginCondition : MethodName := ⟨RX6, "beginCondition", "()V"⟩
abbrev cX6_close : ByteArray := prog_8_method_5_code
def yX6_close : MethodName := ⟨RX6, "close", "()V"⟩
abbrev cX6_has : ByteArray := prog_8_method_6_code
def yX6_has : MethodName := ⟨RX6, "has", "(I)Z"⟩
def RX7 : String := "BrokenFugue$State"
def TX7 : u_T := fun k => match k with
  | 0 => ("BrokenFugue$State", "voices", "[LBrokenFugue$Line;", true)
  | 1 => ("BrokenFugue$State", "subjects", "[LBrokenFugue$Line;", true)
  | 2 => ("BrokenFugue$State", "hands", "[I", true)
  | 3 => ("BrokenFugue$State", "weights", "[I", true)
  | 4 => ("BrokenFugue$State", "parts", "[I", true)
  | 5 => ("BrokenFugue$State", "wholes", "[I", true)
  | 6 => ("BrokenFugue$State", "pageSigns", "[I", true)
  | 7 => ("BrokenFugue$State", "bar", "I", false)
  | 8 => ("BrokenFugue$State", "texts", "I", false)
  | 9 => ("BrokenFugue$State", "shapes", "I", false)
  | _ => ("BrokenFugue$State", "pages", "I", false)
def tyX7 : Nat → FieldType := fun k => match k with
  | 0 => .array (.object "BrokenFugue$Line")
  | 1 => .array (.object "BrokenFugue$Line")
  | 2 => .array .int
  | 3 => .array .int
  | 4 => .array .int
  | 5 => .array .int
  | 6 => .array .int
  | 7 => .int
  | 8 => .int
  | 9 => .int
  | _ => .int
abbrev wsX70 : List Cond := u_ws RX7 TX7 11
theorem nmX7 : ∀ a, a < 11 → ∀ b, b < 11 → a ≠ b → (TX7 a).2.1 ≠ (TX7 b).2.1 := by decide +kernel
theorem tyX7_ok : ∀ k, k < 11 → parseFieldDescriptor (TX7 k).2.2.1 = some (tyX7 k) := by decide +kernel
abbrev cX7_init : ByteArray := prog_9_method_1_code
def yX7_init : MethodName := ⟨RX7, "<init>", "()V"⟩
abbrev cX7_take : ByteArray := prog_9_method_2_code
def yX7_take : MethodName := ⟨RX7, "take", "(LBrokenFugue$State;)V"⟩
abbrev cX7_lengthOf : ByteArray := prog_9_method_3_code
def yX7_lengthOf : MethodName := ⟨RX7, "lengthOf", "(I)I"⟩
abbrev cX7_piecesOf : ByteArray := prog_9_method_4_code
def yX7_piecesOf : MethodName := ⟨RX7, "piecesOf", "(I)I"⟩
def RX8 : String := "BrokenFugue$Steps"
def TX8 : u_T := fun k => match k with
  | 0 => ("BrokenFugue$Steps", "seen", "[I", true)
  | 1 => ("BrokenFugue$Steps", "behind", "[I", true)
  | 2 => ("BrokenFugue$Steps", "seenAll", "I", false)
  | _ => ("BrokenFugue$Steps", "behindAll", "I", false)
def tyX8 : Nat → FieldType := fun k => match k with
  | 0 => .array .int
  | 1 => .array .int
  | 2 => .int
  | _ => .int
abbrev wsX80 : List Cond := u_ws RX8 TX8 4
theorem nmX8 : ∀ a, a < 4 → ∀ b, b < 4 → a ≠ b → (TX8 a).2.1 ≠ (TX8 b).2.1 := by decide +kernel
theorem tyX8_ok : ∀ k, k < 4 → parseFieldDescriptor (TX8 k).2.2.1 = some (tyX8 k) := by decide +kernel
abbrev cX8_init : ByteArray := prog_10_method_1_code
def yX8_init : MethodName := ⟨RX8, "<init>", "()V"⟩
abbrev cX8_clear : ByteArray := prog_10_method_2_code
def yX8_clear : MethodName := ⟨RX8, "clear", "()V"⟩
abbrev cX8_add : ByteArray := prog_10_method_3_code
def yX8_add : MethodName := ⟨RX8, "add", "(LBrokenFugue$Line;I)V"⟩
abbrev cX8_strangeBy : ByteArray := prog_10_method_4_code
def yX8_strangeBy : MethodName := ⟨RX8, "strangeBy", "(LBrokenFugue$Steps;)I"⟩
abbrev cX8_distanceTo : ByteArray := prog_10_method_5_code
def yX8_distanceTo : MethodName := ⟨RX8, "distanceTo", "(LBrokenFugue$Steps;)I"⟩
def RX9 : String := "BrokenFugue"
def TX9 : u_T := fun k => match k with
  | 0 => ("BrokenFugue", "now", "LBrokenFugue$State;", true)
  | 1 => ("BrokenFugue", "saved", "LBrokenFugue$State;", true)
  | 2 => ("BrokenFugue", "rules", "[LBrokenFugue$Rules;", true)
  | 3 => ("BrokenFugue", "reader", "LBrokenFugue$Reader;", true)
  | 4 => ("BrokenFugue", "judge", "LBrokenFugue$Judge;", true)
  | 5 => ("BrokenFugue", "fitter", "LBrokenFugue$Fitter;", true)
  | 6 => ("BrokenFugue", "maker", "LBrokenFugue$Maker;", true)
  | 7 => ("BrokenFugue", "binder", "LBrokenFugue$Binder;", true)
  | 8 => ("BrokenFugue", "steps", "LBrokenFugue$Steps;", true)
  | 9 => ("BrokenFugue", "otherSteps", "LBrokenFugue$Steps;", true)
  | 10 => ("BrokenFugue", "overturned", "[LBrokenFugue$Line;", true)
  | _ => ("BrokenFugue", "anyRead", "Z", false)
def tyX9 : Nat → FieldType := fun k => match k with
  | 0 => .object "BrokenFugue$State"
  | 1 => .object "BrokenFugue$State"
  | 2 => .array (.object "BrokenFugue$Rules")
  | 3 => .object "BrokenFugue$Reader"
  | 4 => .object "BrokenFugue$Judge"
  | 5 => .object "BrokenFugue$Fitter"
  | 6 => .object "BrokenFugue$Maker"
  | 7 => .object "BrokenFugue$Binder"
  | 8 => .object "BrokenFugue$Steps"
  | 9 => .object "BrokenFugue$Steps"
  | 10 => .array (.object "BrokenFugue$Line")
  | _ => .boolean
abbrev wsX90 : List Cond := u_ws RX9 TX9 12
theorem nmX9 : ∀ a, a < 12 → ∀ b, b < 12 → a ≠ b → (TX9 a).2.1 ≠ (TX9 b).2.1 := by decide +kernel
theorem tyX9_ok : ∀ k, k < 12 → parseFieldDescriptor (TX9 k).2.2.1 = some (tyX9 k) := by decide +kernel
abbrev cX9_init : ByteArray := prog_1_method_1_code
def yX9_init : MethodName := ⟨RX9, "<init>", "()V"⟩
abbrev cX9_note : ByteArray := prog_1_method_2_code
def yX9_note : MethodName := ⟨RX9, "note", "(IIIII)I"⟩
abbrev cX9_at : ByteArray := prog_1_method_3_code
def yX9_at : MethodName := ⟨RX9, "at", "(III)I"⟩
abbrev cX9_subject : ByteArray := prog_1_method_4_code
def yX9_subject : MethodName := ⟨RX9, "subject", "(IIII)I"⟩
abbrev cX9_bar : ByteArray := prog_1_method_5_code
def yX9_bar : MethodName := ⟨RX9, "bar", "(I)Z"⟩
abbrev cX9_copy : ByteArray := prog_1_method_6_code
def yX9_copy : MethodName := ⟨RX9, "copy", "(II)Z"⟩
abbrev cX9_feed : ByteArray := prog_1_method_7_code
def yX9_feed : MethodName := ⟨RX9, "feed", "(IIIII)I"⟩
abbrev cX9_end : ByteArray := prog_1_method_8_code
def yX9_end : MethodName := ⟨RX9, "end", "(I)I"⟩
abbrev cX9_text : ByteArray := prog_1_method_9_code
def yX9_text : MethodName := ⟨RX9, "text", "()I"⟩
abbrev cX9_fault : ByteArray := prog_1_method_10_code
def yX9_fault : MethodName := ⟨RX9, "fault", "(I)I"⟩
abbrev cX9_price : ByteArray := prog_1_method_11_code
def yX9_price : MethodName := ⟨RX9, "price", "(II)I"⟩
abbrev cX9_breaks : ByteArray := prog_1_method_12_code
def yX9_breaks : MethodName := ⟨RX9, "breaks", "(IIII)I"⟩
abbrev cX9_fit : ByteArray := prog_1_method_13_code
def yX9_fit : MethodName := ⟨RX9, "fit", "(IIIIIZI)I"⟩
abbrev cX9_fits : ByteArray := prog_1_method_14_code
def yX9_fits : MethodName := ⟨RX9, "fits", "(IIIII)I"⟩
abbrev cX9_cheapest : ByteArray := prog_1_method_15_code
def yX9_cheapest : MethodName := ⟨RX9, "cheapest", "(IIII)I"⟩
abbrev cX9_three : ByteArray := prog_1_method_16_code
def yX9_three : MethodName := ⟨RX9, "three", "(IIIII)I"⟩
abbrev cX9_chance : ByteArray := prog_1_method_17_code
def yX9_chance : MethodName := ⟨RX9, "chance", "(IIIIII)I"⟩
abbrev cX9_seen : ByteArray := prog_1_method_18_code
def yX9_seen : MethodName := ⟨RX9, "seen", "(II)I"⟩
abbrev cX9_strange : ByteArray := prog_1_method_19_code
def yX9_strange : MethodName := ⟨RX9, "strange", "(II)I"⟩
abbrev cX9_follows : ByteArray := prog_1_method_20_code
def yX9_follows : MethodName := ⟨RX9, "follows", "(IIII)I"⟩
abbrev cX9_never : ByteArray := prog_1_method_21_code
def yX9_never : MethodName := ⟨RX9, "never", "(III)I"⟩
abbrev cX9_hand : ByteArray := prog_1_method_22_code
def yX9_hand : MethodName := ⟨RX9, "hand", "(II)Z"⟩
abbrev cX9_apart : ByteArray := prog_1_method_23_code
def yX9_apart : MethodName := ⟨RX9, "apart", "(II)I"⟩
abbrev cX9_whose : ByteArray := prog_1_method_24_code
def yX9_whose : MethodName := ⟨RX9, "whose", "(II)I"⟩
abbrev cX9_endings : ByteArray := prog_1_method_25_code
def yX9_endings : MethodName := ⟨RX9, "endings", "(IIIII)I"⟩
abbrev cX9_made : ByteArray := prog_1_method_26_code
def yX9_made : MethodName := ⟨RX9, "made", "(IIIII)I"⟩
abbrev cX9_head : ByteArray := prog_1_method_27_code
def yX9_head : MethodName := ⟨RX9, "head", "(IIII)I"⟩
abbrev cX9_shape : ByteArray := prog_1_method_28_code
def yX9_shape : MethodName := ⟨RX9, "shape", "(II)I"⟩
abbrev cX9_lasts : ByteArray := prog_1_method_29_code
def yX9_lasts : MethodName := ⟨RX9, "lasts", "(IZ)I"⟩
abbrev cX9_page : ByteArray := prog_1_method_30_code
def yX9_page : MethodName := ⟨RX9, "page", "(IIII)I"⟩
abbrev cX9_orders : ByteArray := prog_1_method_31_code
def yX9_orders : MethodName := ⟨RX9, "orders", "(I)I"⟩
abbrev cX9_where : ByteArray := prog_1_method_32_code
def yX9_where : MethodName := ⟨RX9, "where", "(III)I"⟩
abbrev cX9_weight : ByteArray := prog_1_method_33_code
def yX9_weight : MethodName := ⟨RX9, "weight", "(II)Z"⟩
abbrev cX9_story : ByteArray := prog_1_method_34_code
def yX9_story : MethodName := ⟨RX9, "story", "(II)I"⟩
abbrev cX9_image : ByteArray := prog_1_method_35_code
def yX9_image : MethodName := ⟨RX9, "image", "()I"⟩
abbrev cX9_back : ByteArray := prog_1_method_36_code
def yX9_back : MethodName := ⟨RX9, "back", "()I"⟩
abbrev cX9_about : ByteArray := prog_1_method_37_code
def yX9_about : MethodName := ⟨RX9, "about", "(I)I"⟩
abbrev cX9_aboutOne : ByteArray := prog_1_method_38_code
def yX9_aboutOne : MethodName := ⟨RX9, "aboutOne", "(I)I"⟩
abbrev cX9_within : ByteArray := prog_1_method_39_code
def yX9_within : MethodName := ⟨RX9, "within", "(III)Z"⟩
abbrev cX9_isPiece : ByteArray := prog_1_method_40_code
def yX9_isPiece : MethodName := ⟨RX9, "isPiece", "(I)Z"⟩
abbrev cX9_isVoice : ByteArray := prog_1_method_41_code
def yX9_isVoice : MethodName := ⟨RX9, "isVoice", "(I)Z"⟩
abbrev cX9_isPitch : ByteArray := prog_1_method_42_code
def yX9_isPitch : MethodName := ⟨RX9, "isPitch", "(I)Z"⟩
abbrev cX9_isSubject : ByteArray := prog_1_method_43_code
def yX9_isSubject : MethodName := ⟨RX9, "isSubject", "(I)Z"⟩
abbrev cX9_isSet : ByteArray := prog_1_method_44_code
def yX9_isSet : MethodName := ⟨RX9, "isSet", "(I)Z"⟩
abbrev cX9_isNote : ByteArray := prog_1_method_45_code
def yX9_isNote : MethodName := ⟨RX9, "isNote", "(IIII)Z"⟩
abbrev cX9_boundedStep : ByteArray := prog_1_method_46_code
def yX9_boundedStep : MethodName := ⟨RX9, "boundedStep", "(I)I"⟩
abbrev cX9_formCode : ByteArray := prog_1_method_47_code
def yX9_formCode : MethodName := ⟨RX9, "formCode", "(I)I"⟩
abbrev cX9_formOfThree : ByteArray := prog_1_method_48_code
def yX9_formOfThree : MethodName := ⟨RX9, "formOfThree", "(I)I"⟩
abbrev cX9_isText : ByteArray := prog_1_method_49_code
def yX9_isText : MethodName := ⟨RX9, "isText", "(I)Z"⟩
abbrev cX9_hasNotes : ByteArray := prog_1_method_50_code
def yX9_hasNotes : MethodName := ⟨RX9, "hasNotes", "(I)Z"⟩
abbrev cX9_learn : ByteArray := prog_1_method_51_code
def yX9_learn : MethodName := ⟨RX9, "learn", "(LBrokenFugue$Steps;II)V"⟩
abbrev cX9_isEnding : ByteArray := prog_1_method_52_code
def yX9_isEnding : MethodName := ⟨RX9, "isEnding", "(III)Z"⟩
abbrev cX9_worth : ByteArray := prog_1_method_53_code
def yX9_worth : MethodName := ⟨RX9, "worth", "(IIII)I"⟩
abbrev cX9_ordersOf : ByteArray := prog_1_method_54_code
def yX9_ordersOf : MethodName := ⟨RX9, "ordersOf", "(I)I"⟩
def RX10 : String := "BrokenFugueModel"
def TX10 : u_T := fun k => match k with
  | 0 => ("BrokenFugueModel", "a", "[I", true)
  | 1 => ("BrokenFugueModel", "image", "[I", true)
  | 2 => ("BrokenFugueModel", "texts", "[I", true)
  | 3 => ("BrokenFugueModel", "tape", "[I", true)
  | 4 => ("BrokenFugueModel", "taped", "I", false)
  | 5 => ("BrokenFugueModel", "fault", "I", false)
  | 6 => ("BrokenFugueModel", "faultPlace", "I", false)
  | 7 => ("BrokenFugueModel", "at", "I", false)
  | 8 => ("BrokenFugueModel", "place", "I", false)
  | 9 => ("BrokenFugueModel", "token", "I", false)
  | 10 => ("BrokenFugueModel", "number", "I", false)
  | 11 => ("BrokenFugueModel", "word", "J", false)
  | 12 => ("BrokenFugueModel", "text0", "I", false)
  | 13 => ("BrokenFugueModel", "clauses", "I", false)
  | 14 => ("BrokenFugueModel", "written", "I", false)
  | 15 => ("BrokenFugueModel", "came", "I", false)
  | 16 => ("BrokenFugueModel", "pile", "[I", true)
  | 17 => ("BrokenFugueModel", "piled", "I", false)
  | 18 => ("BrokenFugueModel", "opens", "I", false)
  | 19 => ("BrokenFugueModel", "isWhole", "Z", false)
  | 20 => ("BrokenFugueModel", "sort0", "I", false)
  | 21 => ("BrokenFugueModel", "named", "[I", true)
  | 22 => ("BrokenFugueModel", "values", "[J", true)
  | 23 => ("BrokenFugueModel", "truth", "[Z", true)
  | 24 => ("BrokenFugueModel", "sheet", "[I", true)
  | 25 => ("BrokenFugueModel", "begins", "[Z", true)
  | 26 => ("BrokenFugueModel", "broken", "I", false)
  | 27 => ("BrokenFugueModel", "total", "I", false)
  | 28 => ("BrokenFugueModel", "wanted", "I", false)
  | 29 => ("BrokenFugueModel", "found", "[I", true)
  | 30 => ("BrokenFugueModel", "made", "[I", true)
  | 31 => ("BrokenFugueModel", "fitting", "I", false)
  | 32 => ("BrokenFugueModel", "fittingForm", "I", false)
  | 33 => ("BrokenFugueModel", "least", "I", false)
  | 34 => ("BrokenFugueModel", "leastForm", "I", false)
  | 35 => ("BrokenFugueModel", "changes", "[I", true)
  | 36 => ("BrokenFugueModel", "steps", "[I", true)
  | 37 => ("BrokenFugueModel", "behind", "[I", true)
  | 38 => ("BrokenFugueModel", "allSteps", "I", false)
  | 39 => ("BrokenFugueModel", "own", "[I", true)
  | 40 => ("BrokenFugueModel", "rest0", "[I", true)
  | 41 => ("BrokenFugueModel", "later", "[I", true)
  | 42 => ("BrokenFugueModel", "near", "[I", true)
  | _ => ("BrokenFugueModel", "counts", "[I", true)
def tyX10 : Nat → FieldType := fun k => match k with
  | 0 => .array .int
  | 1 => .array .int
  | 2 => .array .int
  | 3 => .array .int
  | 4 => .int
  | 5 => .int
  | 6 => .int
  | 7 => .int
  | 8 => .int
  | 9 => .int
  | 10 => .int
  | 11 => .long
  | 12 => .int
  | 13 => .int
  | 14 => .int
  | 15 => .int
  | 16 => .array .int
  | 17 => .int
  | 18 => .int
  | 19 => .boolean
  | 20 => .int
  | 21 => .array .int
  | 22 => .array .long
  | 23 => .array .boolean
  | 24 => .array .int
  | 25 => .array .boolean
  | 26 => .int
  | 27 => .int
  | 28 => .int
  | 29 => .array .int
  | 30 => .array .int
  | 31 => .int
  | 32 => .int
  | 33 => .int
  | 34 => .int
  | 35 => .array .int
  | 36 => .array .int
  | 37 => .array .int
  | 38 => .int
  | 39 => .array .int
  | 40 => .array .int
  | 41 => .array .int
  | 42 => .array .int
  | _ => .array .int
abbrev wsX100 : List Cond := u_ws RX10 TX10 44
theorem nmX10 : ∀ a, a < 44 → ∀ b, b < 44 → a ≠ b → (TX10 a).2.1 ≠ (TX10 b).2.1 := by decide +kernel
theorem tyX10_ok : ∀ k, k < 44 → parseFieldDescriptor (TX10 k).2.2.1 = some (tyX10 k) := by decide +kernel
abbrev cX10_init : ByteArray := prog_12_method_1_code
def yX10_init : MethodName := ⟨RX10, "<init>", "()V"⟩
abbrev cX10_copyRow : ByteArray := prog_12_method_2_code
def yX10_copyRow : MethodName := ⟨RX10, "copyRow", "([I[I)V"⟩
abbrev cX10_isIn : ByteArray := prog_12_method_3_code
def yX10_isIn : MethodName := ⟨RX10, "isIn", "(III)Z"⟩
abbrev cX10_abs : ByteArray := prog_12_method_4_code
def yX10_abs : MethodName := ⟨RX10, "abs", "(I)I"⟩
abbrev cX10_isPiece : ByteArray := prog_12_method_5_code
def yX10_isPiece : MethodName := ⟨RX10, "isPiece", "(I)Z"⟩
abbrev cX10_isVoice : ByteArray := prog_12_method_6_code
def yX10_isVoice : MethodName := ⟨RX10, "isVoice", "(I)Z"⟩
abbrev cX10_spot : ByteArray := prog_12_method_7_code
def yX10_spot : MethodName := ⟨RX10, "spot", "(III)I"⟩
abbrev cX10_lengthOf : ByteArray := prog_12_method_8_code
def yX10_lengthOf : MethodName := ⟨RX10, "lengthOf", "(I)I"⟩
abbrev cX10_note : ByteArray := prog_12_method_9_code
def yX10_note : MethodName := ⟨RX10, "note", "(IIIII)I"⟩
abbrev cX10_at : ByteArray := prog_12_method_10_code
def yX10_at : MethodName := ⟨RX10, "at", "(III)I"⟩
abbrev cX10_isSubject : ByteArray := prog_12_method_11_code
def yX10_isSubject : MethodName := ⟨RX10, "isSubject", "(I)Z"⟩
abbrev cX10_beatsOf : ByteArray := prog_12_method_12_code
def yX10_beatsOf : MethodName := ⟨RX10, "beatsOf", "(I)I"⟩
abbrev cX10_isHeld : ByteArray := prog_12_method_13_code
def yX10_isHeld : MethodName := ⟨RX10, "isHeld", "(I)Z"⟩
abbrev cX10_subject : ByteArray := prog_12_method_14_code
def yX10_subject : MethodName := ⟨RX10, "subject", "(IIII)I"⟩
abbrev cX10_bar : ByteArray := prog_12_method_15_code
def yX10_bar : MethodName := ⟨RX10, "bar", "(I)Z"⟩
abbrev cX10_copy : ByteArray := prog_12_method_16_code
def yX10_copy : MethodName := ⟨RX10, "copy", "(II)Z"⟩
abbrev cX10_four : ByteArray := prog_12_method_17_code
def yX10_four : MethodName := ⟨RX10, "four", "(I)V"⟩
abbrev cX10_feed : ByteArray := prog_12_method_18_code
def yX10_feed : MethodName := ⟨RX10, "feed", "(IIIII)I"⟩
abbrev cX10_end : ByteArray := prog_12_method_19_code
def yX10_end : MethodName := ⟨RX10, "end", "(I)I"⟩
abbrev cX10_byteAt : ByteArray := prog_12_method_20_code
def yX10_byteAt : MethodName := ⟨RX10, "byteAt", "(I)I"⟩
abbrev cX10_isLetter : ByteArray := prog_12_method_21_code
def yX10_isLetter : MethodName := ⟨RX10, "isLetter", "(I)Z"⟩
abbrev cX10_isDigit : ByteArray := prog_12_method_22_code
def yX10_isDigit : MethodName := ⟨RX10, "isDigit", "(I)Z"⟩
abbrev cX10_nextToken : ByteArray := prog_12_method_23_code
def yX10_nextToken : MethodName := ⟨RX10, "nextToken", "()V"⟩
abbrev cX10_w3 : ByteArray := prog_12_method_24_code
def yX10_w3 : MethodName := ⟨RX10, "w3", "(III)J"⟩
abbrev cX10_w5 : ByteArray := prog_12_method_25_code
def yX10_w5 : MethodName := ⟨RX10, "w5", "(IIIII)J"⟩
abbrev cX10_w4 : ByteArray := prog_12_method_26_code
def yX10_w4 : MethodName := ⟨RX10, "w4", "(IIII)J"⟩
abbrev cX10_w6 : ByteArray := prog_12_method_27_code
def yX10_w6 : MethodName := ⟨RX10, "w6", "(IIIIII)J"⟩
abbrev cX10_isWord : ByteArray := prog_12_method_28_code
def yX10_isWord : MethodName := ⟨RX10, "isWord", "(J)Z"⟩
abbrev cX10_emit : ByteArray := prog_12_method_29_code
def yX10_emit : MethodName := ⟨RX10, "emit", "(II)V"⟩
abbrev cX10_push : ByteArray := prog_12_method_30_code
def yX10_push : MethodName := ⟨RX10, "push", "(I)V"⟩
abbrev cX10_whole : ByteArray := prog_12_method_31_code
def yX10_whole : MethodName := ⟨RX10, "whole", "()V"⟩
abbrev cX10_settle : ByteArray := prog_12_method_32_code
def yX10_settle : MethodName := ⟨RX10, "settle", "(I)V"⟩
abbrev cX10_nameOf : ByteArray := prog_12_method_33_code
def yX10_nameOf : MethodName := ⟨RX10, "nameOf", "()I"⟩
abbrev cX10_ofVoices : ByteArray := prog_12_method_34_code
def yX10_ofVoices : MethodName := ⟨RX10, "ofVoices", "()I"⟩
abbrev cX10_isBarred : ByteArray := prog_12_method_35_code
def yX10_isBarred : MethodName := ⟨RX10, "isBarred", "(I)Z"⟩
abbrev cX10_beginOne : ByteArray := prog_12_method_36_code
def yX10_beginOne : MethodName := ⟨RX10, "beginOne", "()I"⟩
abbrev cX10_hasParen : ByteArray := prog_12_method_37_code
def yX10_hasParen : MethodName := ⟨RX10, "hasParen", "()Z"⟩
abbrev cX10_goesOn : ByteArray := prog_12_method_38_code
def yX10_goesOn : MethodName := ⟨RX10, "goesOn", "()Z"⟩
abbrev cX10_behindOne : ByteArray := prog_12_method_39_code
def yX10_behindOne : MethodName := ⟨RX10, "behindOne", "()I"⟩
abbrev cX10_summed : ByteArray := prog_12_method_40_code
def yX10_summed : MethodName := ⟨RX10, "summed", "()I"⟩
abbrev cX10_compareOf : ByteArray := prog_12_method_41_code
def yX10_compareOf : MethodName := ⟨RX10, "compareOf", "()I"⟩
abbrev cX10_asks : ByteArray := prog_12_method_42_code
def yX10_asks : MethodName := ⟨RX10, "asks", "()I"⟩
abbrev cX10_either : ByteArray := prog_12_method_43_code
def yX10_either : MethodName := ⟨RX10, "either", "()I"⟩
abbrev cX10_sortOf : ByteArray := prog_12_method_44_code
def yX10_sortOf : MethodName := ⟨RX10, "sortOf", "()I"⟩
abbrev cX10_priced : ByteArray := prog_12_method_45_code
def yX10_priced : MethodName := ⟨RX10, "priced", "(I)I"⟩
abbrev cX10_clause : ByteArray := prog_12_method_46_code
def yX10_clause : MethodName := ⟨RX10, "clause", "()I"⟩
abbrev cX10_readText : ByteArray := prog_12_method_47_code
def yX10_readText : MethodName := ⟨RX10, "readText", "()I"⟩
abbrev cX10_text : ByteArray := prog_12_method_48_code
def yX10_text : MethodName := ⟨RX10, "text", "()I"⟩
abbrev cX10_fault : ByteArray := prog_12_method_49_code
def yX10_fault : MethodName := ⟨RX10, "fault", "(I)I"⟩
abbrev cX10_clip : ByteArray := prog_12_method_50_code
def yX10_clip : MethodName := ⟨RX10, "clip", "(J)J"⟩
abbrev cX10_two : ByteArray := prog_12_method_51_code
def yX10_two : MethodName := ⟨RX10, "two", "(IJJ)J"⟩
abbrev cX10_isAsked : ByteArray := prog_12_method_52_code
def yX10_isAsked : MethodName := ⟨RX10, "isAsked", "(IJJ)Z"⟩
abbrev cX10_work : ByteArray := prog_12_method_53_code
def yX10_work : MethodName := ⟨RX10, "work", "(III)V"⟩
abbrev cX10_clauses : ByteArray := prog_12_method_54_code
def yX10_clauses : MethodName := ⟨RX10, "clauses", "(I)I"⟩
abbrev cX10_clauseAt : ByteArray := prog_12_method_55_code
def yX10_clauseAt : MethodName := ⟨RX10, "clauseAt", "(II)I"⟩
abbrev cX10_isSo : ByteArray := prog_12_method_56_code
def yX10_isSo : MethodName := ⟨RX10, "isSo", "(II)Z"⟩
abbrev cX10_priceAt : ByteArray := prog_12_method_57_code
def yX10_priceAt : MethodName := ⟨RX10, "priceAt", "(II)I"⟩
abbrev cX10_isText : ByteArray := prog_12_method_58_code
def yX10_isText : MethodName := ⟨RX10, "isText", "(I)Z"⟩
abbrev cX10_clearSheet : ByteArray := prog_12_method_59_code
def yX10_clearSheet : MethodName := ⟨RX10, "clearSheet", "()V"⟩
abbrev cX10_layPiece : ByteArray := prog_12_method_60_code
def yX10_layPiece : MethodName := ⟨RX10, "layPiece", "(I)V"⟩
abbrev cX10_sounds : ByteArray := prog_12_method_61_code
def yX10_sounds : MethodName := ⟨RX10, "sounds", "(II)Z"⟩
abbrev cX10_pitchAt : ByteArray := prog_12_method_62_code
def yX10_pitchAt : MethodName := ⟨RX10, "pitchAt", "(II)I"⟩
abbrev cX10_beginsAt : ByteArray := prog_12_method_63_code
def yX10_beginsAt : MethodName := ⟨RX10, "beginsAt", "(II)Z"⟩
abbrev cX10_moves : ByteArray := prog_12_method_64_code
def yX10_moves : MethodName := ⟨RX10, "moves", "(II)I"⟩
abbrev cX10_namePair : ByteArray := prog_12_method_65_code
def yX10_namePair : MethodName := ⟨RX10, "namePair", "(III)V"⟩
abbrev cX10_beganAhead : ByteArray := prog_12_method_66_code
def yX10_beganAhead : MethodName := ⟨RX10, "beganAhead", "(II)I"⟩
abbrev cX10_nameLine : ByteArray := prog_12_method_67_code
def yX10_nameLine : MethodName := ⟨RX10, "nameLine", "(II)V"⟩
abbrev cX10_breakAt : ByteArray := prog_12_method_68_code
def yX10_breakAt : MethodName := ⟨RX10, "breakAt", "(IIIII)V"⟩
abbrev cX10_judgePair : ByteArray := prog_12_method_69_code
def yX10_judgePair : MethodName := ⟨RX10, "judgePair", "(IIII)V"⟩
abbrev cX10_judgeLine : ByteArray := prog_12_method_70_code
def yX10_judgeLine : MethodName := ⟨RX10, "judgeLine", "(III)V"⟩
abbrev cX10_judge : ByteArray := prog_12_method_71_code
def yX10_judge : MethodName := ⟨RX10, "judge", "(III)I"⟩
abbrev cX10_price : ByteArray := prog_12_method_72_code
def yX10_price : MethodName := ⟨RX10, "price", "(II)I"⟩
abbrev cX10_breaks : ByteArray := prog_12_method_73_code
def yX10_breaks : MethodName := ⟨RX10, "breaks", "(IIII)I"⟩
abbrev cX10_takeSubject : ByteArray := prog_12_method_74_code
def yX10_takeSubject : MethodName := ⟨RX10, "takeSubject", "(I)V"⟩
abbrev cX10_layForm : ByteArray := prog_12_method_75_code
def yX10_layForm : MethodName := ⟨RX10, "layForm", "(IIIZI)V"⟩
abbrev cX10_isMadeHeld : ByteArray := prog_12_method_76_code
def yX10_isMadeHeld : MethodName := ⟨RX10, "isMadeHeld", "(I)Z"⟩
abbrev cX10_liftHeld : ByteArray := prog_12_method_77_code
def yX10_liftHeld : MethodName := ⟨RX10, "liftHeld", "()V"⟩
abbrev cX10_takeForm : ByteArray := prog_12_method_78_code
def yX10_takeForm : MethodName := ⟨RX10, "takeForm", "(IIIIZI)V"⟩
abbrev cX10_areSubjects : ByteArray := prog_12_method_79_code
def yX10_areSubjects : MethodName := ⟨RX10, "areSubjects", "(II)Z"⟩
abbrev cX10_fit : ByteArray := prog_12_method_80_code
def yX10_fit : MethodName := ⟨RX10, "fit", "(IIIIIZI)I"⟩
abbrev cX10_formCode : ByteArray := prog_12_method_81_code
def yX10_formCode : MethodName := ⟨RX10, "formCode", "(IIZI)I"⟩
abbrev cX10_goThrough : ByteArray := prog_12_method_82_code
def yX10_goThrough : MethodName := ⟨RX10, "goThrough", "(III)V"⟩
abbrev cX10_prepare : ByteArray := prog_12_method_83_code
def yX10_prepare : MethodName := ⟨RX10, "prepare", "(II)V"⟩
abbrev cX10_isLimit : ByteArray := prog_12_method_84_code
def yX10_isLimit : MethodName := ⟨RX10, "isLimit", "(I)Z"⟩
abbrev cX10_fits : ByteArray := prog_12_method_85_code
def yX10_fits : MethodName := ⟨RX10, "fits", "(IIIII)I"⟩
abbrev cX10_cheapest : ByteArray := prog_12_method_86_code
def yX10_cheapest : MethodName := ⟨RX10, "cheapest", "(IIII)I"⟩
abbrev cX10_layThird : ByteArray := prog_12_method_87_code
def yX10_layThird : MethodName := ⟨RX10, "layThird", "(III)V"⟩
abbrev cX10_thirdCode : ByteArray := prog_12_method_88_code
def yX10_thirdCode : MethodName := ⟨RX10, "thirdCode", "(I)I"⟩
abbrev cX10_three : ByteArray := prog_12_method_89_code
def yX10_three : MethodName := ⟨RX10, "three", "(IIIII)I"⟩
abbrev cX10_takeChanges : ByteArray := prog_12_method_90_code
def yX10_takeChanges : MethodName := ⟨RX10, "takeChanges", "()I"⟩
abbrev cX10_shuffle : ByteArray := prog_12_method_91_code
def yX10_shuffle : MethodName := ⟨RX10, "shuffle", "(II)V"⟩
abbrev cX10_putChanges : ByteArray := prog_12_method_92_code
def yX10_putChanges : MethodName := ⟨RX10, "putChanges", "()V"⟩
abbrev cX10_chance : ByteArray := prog_12_method_93_code
def yX10_chance : MethodName := ⟨RX10, "chance", "(IIIIII)I"⟩
abbrev cX10_held12 : ByteArray := prog_12_method_94_code
def yX10_held12 : MethodName := ⟨RX10, "held12", "(I)I"⟩
abbrev cX10_forget : ByteArray := prog_12_method_95_code
def yX10_forget : MethodName := ⟨RX10, "forget", "()V"⟩
abbrev cX10_learnPiece : ByteArray := prog_12_method_96_code
def yX10_learnPiece : MethodName := ⟨RX10, "learnPiece", "(I)V"⟩
abbrev cX10_learn : ByteArray := prog_12_method_97_code
def yX10_learn : MethodName := ⟨RX10, "learn", "(I)V"⟩
abbrev cX10_isSet : ByteArray := prog_12_method_98_code
def yX10_isSet : MethodName := ⟨RX10, "isSet", "(I)Z"⟩
abbrev cX10_seen : ByteArray := prog_12_method_99_code
def yX10_seen : MethodName := ⟨RX10, "seen", "(II)I"⟩
abbrev cX10_strangeOf : ByteArray := prog_12_method_100_code
def yX10_strangeOf : MethodName := ⟨RX10, "strangeOf", "(II)I"⟩
abbrev cX10_strange : ByteArray := prog_12_method_101_code
def yX10_strange : MethodName := ⟨RX10, "strange", "(II)I"⟩
abbrev cX10_follows : ByteArray := prog_12_method_102_code
def yX10_follows : MethodName := ⟨RX10, "follows", "(IIII)I"⟩
abbrev cX10_never : ByteArray := prog_12_method_103_code
def yX10_never : MethodName := ⟨RX10, "never", "(III)I"⟩
abbrev cX10_hand : ByteArray := prog_12_method_104_code
def yX10_hand : MethodName := ⟨RX10, "hand", "(II)Z"⟩
abbrev cX10_apartOf : ByteArray := prog_12_method_105_code
def yX10_apartOf : MethodName := ⟨RX10, "apartOf", "(II)I"⟩
abbrev cX10_apart : ByteArray := prog_12_method_106_code
def yX10_apart : MethodName := ⟨RX10, "apart", "(II)I"⟩
abbrev cX10_whose : ByteArray := prog_12_method_107_code
def yX10_whose : MethodName := ⟨RX10, "whose", "(II)I"⟩
abbrev cX10_isEnding : ByteArray := prog_12_method_108_code
def yX10_isEnding : MethodName := ⟨RX10, "isEnding", "(III)Z"⟩
abbrev cX10_worthOf : ByteArray := prog_12_method_109_code
def yX10_worthOf : MethodName := ⟨RX10, "worthOf", "(IIII)I"⟩
abbrev cX10_endings : ByteArray := prog_12_method_110_code
def yX10_endings : MethodName := ⟨RX10, "endings", "(IIIII)I"⟩
abbrev cX10_cheap : ByteArray := prog_12_method_111_code
def yX10_cheap : MethodName := ⟨RX10, "cheap", "(III)I"⟩
abbrev cX10_costAt : ByteArray := prog_12_method_112_code
def yX10_costAt : MethodName := ⟨RX10, "costAt", "(III)I"⟩
abbrev cX10_put : ByteArray := prog_12_method_113_code
def yX10_put : MethodName := ⟨RX10, "put", "(III)V"⟩
abbrev cX10_costOf : ByteArray := prog_12_method_114_code
def yX10_costOf : MethodName := ⟨RX10, "costOf", "(IIIIIIII)I"⟩
abbrev cX10_bestAt : ByteArray := prog_12_method_115_code
def yX10_bestAt : MethodName := ⟨RX10, "bestAt", "(IIIIIIII)I"⟩
abbrev cX10_made : ByteArray := prog_12_method_116_code
def yX10_made : MethodName := ⟨RX10, "made", "(IIIII)I"⟩
abbrev cX10_head : ByteArray := prog_12_method_117_code
def yX10_head : MethodName := ⟨RX10, "head", "(IIII)I"⟩
abbrev cX10_shape : ByteArray := prog_12_method_118_code
def yX10_shape : MethodName := ⟨RX10, "shape", "(II)I"⟩
abbrev cX10_lasts : ByteArray := prog_12_method_119_code
def yX10_lasts : MethodName := ⟨RX10, "lasts", "(IZ)I"⟩
abbrev cX10_page : ByteArray := prog_12_method_120_code
def yX10_page : MethodName := ⟨RX10, "page", "(IIII)I"⟩
abbrev cX10_isAny : ByteArray := prog_12_method_121_code
def yX10_isAny : MethodName := ⟨RX10, "isAny", "(II)Z"⟩
abbrev cX10_bind : ByteArray := prog_12_method_122_code
def yX10_bind : MethodName := ⟨RX10, "bind", "(I)V"⟩
abbrev cX10_mayLie : ByteArray := prog_12_method_123_code
def yX10_mayLie : MethodName := ⟨RX10, "mayLie", "(III)Z"⟩
abbrev cX10_count : ByteArray := prog_12_method_124_code
def yX10_count : MethodName := ⟨RX10, "count", "(III)I"⟩
abbrev cX10_orders : ByteArray := prog_12_method_125_code
def yX10_orders : MethodName := ⟨RX10, "orders", "(I)I"⟩
abbrev cX10_where : ByteArray := prog_12_method_126_code
def yX10_where : MethodName := ⟨RX10, "where", "(III)I"⟩
abbrev cX10_weight : ByteArray := prog_12_method_127_code
def yX10_weight : MethodName := ⟨RX10, "weight", "(II)Z"⟩
abbrev cX10_story : ByteArray := prog_12_method_128_code
def yX10_story : MethodName := ⟨RX10, "story", "(II)I"⟩
abbrev cX10_image : ByteArray := prog_12_method_129_code
def yX10_image : MethodName := ⟨RX10, "image", "()I"⟩
abbrev cX10_back : ByteArray := prog_12_method_130_code
def yX10_back : MethodName := ⟨RX10, "back", "()I"⟩
abbrev cX10_about : ByteArray := prog_12_method_131_code
def yX10_about : MethodName := ⟨RX10, "about", "(I)I"⟩
def RJx145de : String := "java/io/Serializable"
def TJx145de : u_T := fun k => match k with
  | _ => ("", "", "", false)
def tyJx145de : Nat → FieldType := fun k => match k with
  | _ => .int
abbrev wsJx145de0 : List Cond := u_ws RJx145de TJx145de 0
theorem nmJx145de : ∀ a, a < 0 → ∀ b, b < 0 → a ≠ b → (TJx145de a).2.1 ≠ (TJx145de b).2.1 := by decide +kernel
theorem tyJx145de_ok : ∀ k, k < 0 → parseFieldDescriptor (TJx145de k).2.2.1 = some (tyJx145de k) := by decide +kernel
def RJx9f9b0 : String := "java/lang/CharSequence"
def TJx9f9b0 : u_T := fun k => match k with
  | _ => ("", "", "", false)
def tyJx9f9b0 : Nat → FieldType := fun k => match k with
  | _ => .int
abbrev wsJx9f9b00 : List Cond := u_ws RJx9f9b0 TJx9f9b0 0
theorem nmJx9f9b0 : ∀ a, a < 0 → ∀ b, b < 0 → a ≠ b → (TJx9f9b0 a).2.1 ≠ (TJx9f9b0 b).2.1 := by decide +kernel
theorem tyJx9f9b0_ok : ∀ k, k < 0 → parseFieldDescriptor (TJx9f9b0 k).2.2.1 = some (tyJx9f9b0 k) := by decide +kernel
def RJxb160c : String := "java/lang/Comparable"
def TJxb160c : u_T := fun k => match k with
  | _ => ("", "", "", false)
def tyJxb160c : Nat → FieldType := fun k => match k with
  | _ => .int
abbrev wsJxb160c0 : List Cond := u_ws RJxb160c TJxb160c 0
theorem nmJxb160c : ∀ a, a < 0 → ∀ b, b < 0 → a ≠ b → (TJxb160c a).2.1 ≠ (TJxb160c b).2.1 := by decide +kernel
theorem tyJxb160c_ok : ∀ k, k < 0 → parseFieldDescriptor (TJxb160c k).2.2.1 = some (tyJxb160c k) := by decide +kernel
def RJ6 : String := "java/lang/Integer"
def TJ6 : u_T := fun k => match k with
  | _ => ("", "", "", false)
def tyJ6 : Nat → FieldType := fun k => match k with
  | _ => .int
abbrev wsJ60 : List Cond := u_ws RJ6 TJ6 0
theorem nmJ6 : ∀ a, a < 0 → ∀ b, b < 0 → a ≠ b → (TJ6 a).2.1 ≠ (TJ6 b).2.1 := by decide +kernel
theorem tyJ6_ok : ∀ k, k < 0 → parseFieldDescriptor (TJ6 k).2.2.1 = some (tyJ6 k) := by decide +kernel
abbrev cJ6_bitCount_0f7a4 : ByteArray := prog_13_method_49_code
def yJ6_bitCount_0f7a4 : MethodName := ⟨RJ6, "bitCount", "(I)I"⟩
def RJ9 : String := "java/lang/Math"
def TJ9 : u_T := fun k => match k with
  | _ => ("", "", "", false)
def tyJ9 : Nat → FieldType := fun k => match k with
  | _ => .int
abbrev wsJ90 : List Cond := u_ws RJ9 TJ9 0
theorem nmJ9 : ∀ a, a < 0 → ∀ b, b < 0 → a ≠ b → (TJ9 a).2.1 ≠ (TJ9 b).2.1 := by decide +kernel
theorem tyJ9_ok : ∀ k, k < 0 → parseFieldDescriptor (TJ9 k).2.2.1 = some (tyJ9 k) := by decide +kernel
abbrev cJ9_floorMod_7cf53 : ByteArray := prog_14_method_50_code
def yJ9_floorMod_7cf53 : MethodName := ⟨RJ9, "floorMod", "(II)I"⟩
abbrev cJ9_abs_0f7a4 : ByteArray := prog_14_method_59_code
def yJ9_abs_0f7a4 : MethodName := ⟨RJ9, "abs", "(I)I"⟩
abbrev cJ9_max_7cf53 : ByteArray := prog_14_method_65_code
def yJ9_max_7cf53 : MethodName := ⟨RJ9, "max", "(II)I"⟩
abbrev cJ9_min_7cf53 : ByteArray := prog_14_method_69_code
def yJ9_min_7cf53 : MethodName := ⟨RJ9, "min", "(II)I"⟩
def RJ0 : String := "java/lang/String"
def TJ0 : u_T := fun k => match k with
  | _ => ("", "", "", false)
def tyJ0 : Nat → FieldType := fun k => match k with
  | _ => .int
abbrev wsJ00 : List Cond := u_ws RJ0 TJ0 0
theorem nmJ0 : ∀ a, a < 0 → ∀ b, b < 0 → a ≠ b → (TJ0 a).2.1 ≠ (TJ0 b).2.1 := by decide +kernel
theorem tyJ0_ok : ∀ k, k < 0 → parseFieldDescriptor (TJ0 k).2.2.1 = some (tyJ0 k) := by decide +kernel
abbrev cJ0_length_8abf5 : ByteArray := prog_15_method_54_code
def yJ0_length_8abf5 : MethodName := ⟨RJ0, "length", "()I"⟩
abbrev cJ0_charAt_5068e : ByteArray := prog_15_method_56_code
def yJ0_charAt_5068e : MethodName := ⟨RJ0, "charAt", "(I)C"⟩
abbrev cJ0_coder_7d493 : ByteArray := prog_15_method_152_code
def yJ0_coder_7d493 : MethodName := ⟨RJ0, "coder", "()B"⟩
abbrev cJ0_isLatin1_aae02 : ByteArray := prog_15_method_154_code
def yJ0_isLatin1_aae02 : MethodName := ⟨RJ0, "isLatin1", "()Z"⟩
abbrev cJ0_checkIndex_df160 : ByteArray := prog_15_method_155_code
def yJ0_checkIndex_df160 : MethodName := ⟨RJ0, "checkIndex", "(II)V"⟩
def RJ1 : String := "java/lang/StringLatin1"
def TJ1 : u_T := fun k => match k with
  | _ => ("", "", "", false)
def tyJ1 : Nat → FieldType := fun k => match k with
  | _ => .int
abbrev wsJ10 : List Cond := u_ws RJ1 TJ1 0
theorem nmJ1 : ∀ a, a < 0 → ∀ b, b < 0 → a ≠ b → (TJ1 a).2.1 ≠ (TJ1 b).2.1 := by decide +kernel
theorem tyJ1_ok : ∀ k, k < 0 → parseFieldDescriptor (TJ1 k).2.2.1 = some (tyJ1 k) := by decide +kernel
abbrev cJ1_charAt_3b067 : ByteArray := prog_16_method_2_code
def yJ1_charAt_3b067 : MethodName := ⟨RJ1, "charAt", "([BI)C"⟩
def RJ2 : String := "java/lang/StringUTF16"
def TJ2 : u_T := fun k => match k with
  | _ => ("", "", "", false)
def tyJ2 : Nat → FieldType := fun k => match k with
  | _ => .int
abbrev wsJ20 : List Cond := u_ws RJ2 TJ2 0
theorem nmJ2 : ∀ a, a < 0 → ∀ b, b < 0 → a ≠ b → (TJ2 a).2.1 ≠ (TJ2 b).2.1 := by decide +kernel
theorem tyJ2_ok : ∀ k, k < 0 → parseFieldDescriptor (TJ2 k).2.2.1 = some (tyJ2 k) := by decide +kernel
abbrev cJ2_getChar_3b067 : ByteArray := prog_17_method_5_code
def yJ2_getChar_3b067 : MethodName := ⟨RJ2, "getChar", "([BI)C"⟩
abbrev cJ2_length_9d52b : ByteArray := prog_17_method_6_code
def yJ2_length_9d52b : MethodName := ⟨RJ2, "length", "([B)I"⟩
abbrev cJ2_charAt_3b067 : ByteArray := prog_17_method_83_code
def yJ2_charAt_3b067 : MethodName := ⟨RJ2, "charAt", "([BI)C"⟩
abbrev cJ2_checkIndex_2214a : ByteArray := prog_17_method_91_code
def yJ2_checkIndex_2214a : MethodName := ⟨RJ2, "checkIndex", "(I[B)V"⟩
def RJ10 : String := "java/lang/System"
def TJ10 : u_T := fun k => match k with
  | _ => ("", "", "", false)
def tyJ10 : Nat → FieldType := fun k => match k with
  | _ => .int
abbrev wsJ100 : List Cond := u_ws RJ10 TJ10 0
theorem nmJ10 : ∀ a, a < 0 → ∀ b, b < 0 → a ≠ b → (TJ10 a).2.1 ≠ (TJ10 b).2.1 := by decide +kernel
theorem tyJ10_ok : ∀ k, k < 0 → parseFieldDescriptor (TJ10 k).2.2.1 = some (tyJ10 k) := by decide +kernel
def RJxfd54e : String := "java/lang/constant/Constable"
def TJxfd54e : u_T := fun k => match k with
  | _ => ("", "", "", false)
def tyJxfd54e : Nat → FieldType := fun k => match k with
  | _ => .int
abbrev wsJxfd54e0 : List Cond := u_ws RJxfd54e TJxfd54e 0
theorem nmJxfd54e : ∀ a, a < 0 → ∀ b, b < 0 → a ≠ b → (TJxfd54e a).2.1 ≠ (TJxfd54e b).2.1 := by decide +kernel
theorem tyJxfd54e_ok : ∀ k, k < 0 → parseFieldDescriptor (TJxfd54e k).2.2.1 = some (tyJxfd54e k) := by decide +kernel
def RJx3cf43 : String := "java/lang/constant/ConstantDesc"
def TJx3cf43 : u_T := fun k => match k with
  | _ => ("", "", "", false)
def tyJx3cf43 : Nat → FieldType := fun k => match k with
  | _ => .int
abbrev wsJx3cf430 : List Cond := u_ws RJx3cf43 TJx3cf43 0
theorem nmJx3cf43 : ∀ a, a < 0 → ∀ b, b < 0 → a ≠ b → (TJx3cf43 a).2.1 ≠ (TJx3cf43 b).2.1 := by decide +kernel
theorem tyJx3cf43_ok : ∀ k, k < 0 → parseFieldDescriptor (TJx3cf43 k).2.2.1 = some (tyJx3cf43 k) := by decide +kernel
def RJ7 : String := "java/util/Arrays"
def TJ7 : u_T := fun k => match k with
  | _ => ("", "", "", false)
def tyJ7 : Nat → FieldType := fun k => match k with
  | _ => .int
abbrev wsJ70 : List Cond := u_ws RJ7 TJ7 0
theorem nmJ7 : ∀ a, a < 0 → ∀ b, b < 0 → a ≠ b → (TJ7 a).2.1 ≠ (TJ7 b).2.1 := by decide +kernel
theorem tyJ7_ok : ∀ k, k < 0 → parseFieldDescriptor (TJ7 k).2.2.1 = some (tyJ7 k) := by decide +kernel
abbrev cJ7_fill_53178 : ByteArray := prog_19_method_103_code
def yJ7_fill_53178 : MethodName := ⟨RJ7, "fill", "([II)V"⟩
def RJ3 : String := "jdk/internal/util/Preconditions"
def TJ3 : u_T := fun k => match k with
  | _ => ("", "", "", false)
def tyJ3 : Nat → FieldType := fun k => match k with
  | _ => .int
abbrev wsJ30 : List Cond := u_ws RJ3 TJ3 0
theorem nmJ3 : ∀ a, a < 0 → ∀ b, b < 0 → a ≠ b → (TJ3 a).2.1 ≠ (TJ3 b).2.1 := by decide +kernel
theorem tyJ3_ok : ∀ k, k < 0 → parseFieldDescriptor (TJ3 k).2.2.1 = some (tyJ3 k) := by decide +kernel
abbrev cJ3_checkIndex_8e157 : ByteArray := prog_20_method_11_code
def yJ3_checkIndex_8e157 : MethodName := ⟨RJ3, "checkIndex", "(IILjava/util/function/BiFunction;)I"⟩
def RL : String := "BrokenFugueLaw"
abbrev cL_law : ByteArray := code
def yL_law : MethodName := ⟨RL, "law", "([I)Z"⟩
