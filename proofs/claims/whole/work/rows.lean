section
-- ===== PART A: goes FIRST, ahead of the names: the tables' words, and 'selects' of the private methods out of them =====
/-- a private method of a class that the tables say can be made, by its rows of tables_1 -/
def lw_okq (q : MethodName × Nat) : Prop := (q.1.cls ≠ "java/lang/invoke/MethodHandle" ∧ q.1.cls ≠ "java/lang/invoke/VarHandle") ∧ Cond.instantiable q.1.cls q.2 ∈ tables_1 ∧ Cond.privateMethod q.1 ∈ tables_1 ∧ Cond.instanceMethod q.1 ∈ tables_1
theorem lw_p0 : lw_okq (⟨"SnakeLadders", "refuse", "(I)I"⟩, 11) := ⟨⟨by decide +kernel, by decide +kernel⟩, List.mem_of_getElem? (i := 19) (by decide +kernel), List.mem_of_getElem? (i := 328) (by decide +kernel), List.mem_of_getElem? (i := 329) (by decide +kernel)⟩
theorem lw_p1 : lw_okq (⟨"SnakeLadders$TextReader", "nextToken", "()V"⟩, 8) := ⟨⟨by decide +kernel, by decide +kernel⟩, List.mem_of_getElem? (i := 202) (by decide +kernel), List.mem_of_getElem? (i := 397) (by decide +kernel), List.mem_of_getElem? (i := 398) (by decide +kernel)⟩
theorem lw_p2 : lw_okq (⟨"SnakeLadders$TextReader", "runEnd", "(III)I"⟩, 8) := ⟨⟨by decide +kernel, by decide +kernel⟩, List.mem_of_getElem? (i := 202) (by decide +kernel), List.mem_of_getElem? (i := 401) (by decide +kernel), List.mem_of_getElem? (i := 402) (by decide +kernel)⟩
theorem lw_p3 : lw_okq (⟨"SnakeLadders$TextReader", "byteAt", "(I)I"⟩, 8) := ⟨⟨by decide +kernel, by decide +kernel⟩, List.mem_of_getElem? (i := 202) (by decide +kernel), List.mem_of_getElem? (i := 405) (by decide +kernel), List.mem_of_getElem? (i := 406) (by decide +kernel)⟩
theorem lw_p4 : lw_okq (⟨"SnakeLadders$TextReader", "valueOf", "(I)I"⟩, 8) := ⟨⟨by decide +kernel, by decide +kernel⟩, List.mem_of_getElem? (i := 202) (by decide +kernel), List.mem_of_getElem? (i := 409) (by decide +kernel), List.mem_of_getElem? (i := 410) (by decide +kernel)⟩
theorem lw_p5 : lw_okq (⟨"SnakeLadders$TextReader", "boardItem", "()Z"⟩, 8) := ⟨⟨by decide +kernel, by decide +kernel⟩, List.mem_of_getElem? (i := 202) (by decide +kernel), List.mem_of_getElem? (i := 413) (by decide +kernel), List.mem_of_getElem? (i := 414) (by decide +kernel)⟩
theorem lw_p6 : lw_okq (⟨"SnakeLadders$TextReader", "isWord", "(Ljava/lang/String;)Z"⟩, 8) := ⟨⟨by decide +kernel, by decide +kernel⟩, List.mem_of_getElem? (i := 202) (by decide +kernel), List.mem_of_getElem? (i := 418) (by decide +kernel), List.mem_of_getElem? (i := 419) (by decide +kernel)⟩
theorem lw_p7 : lw_okq (⟨"SnakeLadders$TextReader", "nextNumber", "(II)Z"⟩, 8) := ⟨⟨by decide +kernel, by decide +kernel⟩, List.mem_of_getElem? (i := 202) (by decide +kernel), List.mem_of_getElem? (i := 470) (by decide +kernel), List.mem_of_getElem? (i := 471) (by decide +kernel)⟩
theorem lw_p8 : lw_okq (⟨"SnakeLadders$TextReader", "isNumber", "(II)Z"⟩, 8) := ⟨⟨by decide +kernel, by decide +kernel⟩, List.mem_of_getElem? (i := 202) (by decide +kernel), List.mem_of_getElem? (i := 474) (by decide +kernel), List.mem_of_getElem? (i := 475) (by decide +kernel)⟩
theorem lw_p9 : lw_okq (⟨"SnakeLadders$TextReader", "nextSemicolon", "()Z"⟩, 8) := ⟨⟨by decide +kernel, by decide +kernel⟩, List.mem_of_getElem? (i := 202) (by decide +kernel), List.mem_of_getElem? (i := 480) (by decide +kernel), List.mem_of_getElem? (i := 481) (by decide +kernel)⟩
theorem lw_p10 : lw_okq (⟨"SnakeLadders$TextReader", "laterItem", "()Z"⟩, 8) := ⟨⟨by decide +kernel, by decide +kernel⟩, List.mem_of_getElem? (i := 202) (by decide +kernel), List.mem_of_getElem? (i := 484) (by decide +kernel), List.mem_of_getElem? (i := 485) (by decide +kernel)⟩
theorem lw_p11 : lw_okq (⟨"SnakeLadders$TextReader", "linkItem", "()Z"⟩, 8) := ⟨⟨by decide +kernel, by decide +kernel⟩, List.mem_of_getElem? (i := 202) (by decide +kernel), List.mem_of_getElem? (i := 489) (by decide +kernel), List.mem_of_getElem? (i := 490) (by decide +kernel)⟩
theorem lw_p12 : lw_okq (⟨"SnakeLadders$TextReader", "playerItem", "()Z"⟩, 8) := ⟨⟨by decide +kernel, by decide +kernel⟩, List.mem_of_getElem? (i := 202) (by decide +kernel), List.mem_of_getElem? (i := 496) (by decide +kernel), List.mem_of_getElem? (i := 497) (by decide +kernel)⟩
theorem lw_p13 : lw_okq (⟨"SnakeLadders$TextReader", "setItem", "()Z"⟩, 8) := ⟨⟨by decide +kernel, by decide +kernel⟩, List.mem_of_getElem? (i := 202) (by decide +kernel), List.mem_of_getElem? (i := 502) (by decide +kernel), List.mem_of_getElem? (i := 503) (by decide +kernel)⟩
theorem lw_p14 : lw_okq (⟨"SnakeLadders$TextReader", "throwItem", "()Z"⟩, 8) := ⟨⟨by decide +kernel, by decide +kernel⟩, List.mem_of_getElem? (i := 202) (by decide +kernel), List.mem_of_getElem? (i := 507) (by decide +kernel), List.mem_of_getElem? (i := 508) (by decide +kernel)⟩
theorem lw_p15 : lw_okq (⟨"SnakeLadders$Board", "linkMet", "(II)I"⟩, 11) := ⟨⟨by decide +kernel, by decide +kernel⟩, List.mem_of_getElem? (i := 33) (by decide +kernel), List.mem_of_getElem? (i := 535) (by decide +kernel), List.mem_of_getElem? (i := 536) (by decide +kernel)⟩
def lw_privs_1 : List (MethodName × Nat) := [(⟨"SnakeLadders", "refuse", "(I)I"⟩, 11), (⟨"SnakeLadders$TextReader", "nextToken", "()V"⟩, 8), (⟨"SnakeLadders$TextReader", "runEnd", "(III)I"⟩, 8), (⟨"SnakeLadders$TextReader", "byteAt", "(I)I"⟩, 8), (⟨"SnakeLadders$TextReader", "valueOf", "(I)I"⟩, 8), (⟨"SnakeLadders$TextReader", "boardItem", "()Z"⟩, 8), (⟨"SnakeLadders$TextReader", "isWord", "(Ljava/lang/String;)Z"⟩, 8), (⟨"SnakeLadders$TextReader", "nextNumber", "(II)Z"⟩, 8), (⟨"SnakeLadders$TextReader", "isNumber", "(II)Z"⟩, 8), (⟨"SnakeLadders$TextReader", "nextSemicolon", "()Z"⟩, 8), (⟨"SnakeLadders$TextReader", "laterItem", "()Z"⟩, 8), (⟨"SnakeLadders$TextReader", "linkItem", "()Z"⟩, 8), (⟨"SnakeLadders$TextReader", "playerItem", "()Z"⟩, 8), (⟨"SnakeLadders$TextReader", "setItem", "()Z"⟩, 8), (⟨"SnakeLadders$TextReader", "throwItem", "()Z"⟩, 8), (⟨"SnakeLadders$Board", "linkMet", "(II)I"⟩, 11)]
theorem lw_r1 : ∀ q ∈ lw_privs_1, lw_okq q := List.forall_mem_cons.mpr ⟨lw_p0, List.forall_mem_cons.mpr ⟨lw_p1, List.forall_mem_cons.mpr ⟨lw_p2, List.forall_mem_cons.mpr ⟨lw_p3, List.forall_mem_cons.mpr ⟨lw_p4, List.forall_mem_cons.mpr ⟨lw_p5, List.forall_mem_cons.mpr ⟨lw_p6, List.forall_mem_cons.mpr ⟨lw_p7, List.forall_mem_cons.mpr ⟨lw_p8, List.forall_mem_cons.mpr ⟨lw_p9, List.forall_mem_cons.mpr ⟨lw_p10, List.forall_mem_cons.mpr ⟨lw_p11, List.forall_mem_cons.mpr ⟨lw_p12, List.forall_mem_cons.mpr ⟨lw_p13, List.forall_mem_cons.mpr ⟨lw_p14, List.forall_mem_cons.mpr ⟨lw_p15, fun _ h => absurd h List.not_mem_nil⟩⟩⟩⟩⟩⟩⟩⟩⟩⟩⟩⟩⟩⟩⟩⟩
theorem lw_p16 : lw_okq (⟨"SnakeLadders$Board", "leadOf", "(II)I"⟩, 11) := ⟨⟨by decide +kernel, by decide +kernel⟩, List.mem_of_getElem? (i := 33) (by decide +kernel), List.mem_of_getElem? (i := 540) (by decide +kernel), List.mem_of_getElem? (i := 541) (by decide +kernel)⟩
theorem lw_p17 : lw_okq (⟨"SnakeLadders", "isPlayer", "(I)Z"⟩, 11) := ⟨⟨by decide +kernel, by decide +kernel⟩, List.mem_of_getElem? (i := 19) (by decide +kernel), List.mem_of_getElem? (i := 564) (by decide +kernel), List.mem_of_getElem? (i := 565) (by decide +kernel)⟩
theorem lw_p18 : lw_okq (⟨"SnakeLadders$History", "dropOldest", "()V"⟩, 2) := ⟨⟨by decide +kernel, by decide +kernel⟩, List.mem_of_getElem? (i := 108) (by decide +kernel), List.mem_of_getElem? (i := 573) (by decide +kernel), List.mem_of_getElem? (i := 574) (by decide +kernel)⟩
theorem lw_p19 : lw_okq (⟨"SnakeLadders", "isLink", "(I)Z"⟩, 11) := ⟨⟨by decide +kernel, by decide +kernel⟩, List.mem_of_getElem? (i := 19) (by decide +kernel), List.mem_of_getElem? (i := 608) (by decide +kernel), List.mem_of_getElem? (i := 609) (by decide +kernel)⟩
theorem lw_p20 : lw_okq (⟨"SnakeLadders", "refuseByTen", "()I"⟩, 11) := ⟨⟨by decide +kernel, by decide +kernel⟩, List.mem_of_getElem? (i := 19) (by decide +kernel), List.mem_of_getElem? (i := 624) (by decide +kernel), List.mem_of_getElem? (i := 625) (by decide +kernel)⟩
theorem lw_p21 : lw_okq (⟨"SnakeLadders$Outlook", "spreadFrom", "(III)V"⟩, 8) := ⟨⟨by decide +kernel, by decide +kernel⟩, List.mem_of_getElem? (i := 241) (by decide +kernel), List.mem_of_getElem? (i := 652) (by decide +kernel), List.mem_of_getElem? (i := 653) (by decide +kernel)⟩
theorem lw_p22 : lw_okq (⟨"SnakeLadders$Outlook", "addRows", "(II)V"⟩, 8) := ⟨⟨by decide +kernel, by decide +kernel⟩, List.mem_of_getElem? (i := 241) (by decide +kernel), List.mem_of_getElem? (i := 656) (by decide +kernel), List.mem_of_getElem? (i := 657) (by decide +kernel)⟩
theorem lw_p23 : lw_okq (⟨"SnakeLadders", "keepFraction", "(JJ)I"⟩, 11) := ⟨⟨by decide +kernel, by decide +kernel⟩, List.mem_of_getElem? (i := 19) (by decide +kernel), List.mem_of_getElem? (i := 672) (by decide +kernel), List.mem_of_getElem? (i := 673) (by decide +kernel)⟩
theorem lw_p24 : lw_okq (⟨"SnakeLadders", "areUnlikePlayers", "(II)Z"⟩, 11) := ⟨⟨by decide +kernel, by decide +kernel⟩, List.mem_of_getElem? (i := 19) (by decide +kernel), List.mem_of_getElem? (i := 691) (by decide +kernel), List.mem_of_getElem? (i := 692) (by decide +kernel)⟩
theorem lw_p25 : lw_okq (⟨"SnakeLadders$Guess", "fitsNotes", "(LSnakeLadders$Board;LSnakeLadders$Seen;II)Z"⟩, 1) := ⟨⟨by decide +kernel, by decide +kernel⟩, List.mem_of_getElem? (i := 277) (by decide +kernel), List.mem_of_getElem? (i := 760) (by decide +kernel), List.mem_of_getElem? (i := 761) (by decide +kernel)⟩
theorem lw_p26 : lw_okq (⟨"SnakeLadders$Guess", "mostAlike", "(I)I"⟩, 1) := ⟨⟨by decide +kernel, by decide +kernel⟩, List.mem_of_getElem? (i := 277) (by decide +kernel), List.mem_of_getElem? (i := 777) (by decide +kernel), List.mem_of_getElem? (i := 778) (by decide +kernel)⟩
theorem lw_p27 : lw_okq (⟨"SnakeLadders$Guess", "alikeTo", "(II)I"⟩, 1) := ⟨⟨by decide +kernel, by decide +kernel⟩, List.mem_of_getElem? (i := 277) (by decide +kernel), List.mem_of_getElem? (i := 781) (by decide +kernel), List.mem_of_getElem? (i := 782) (by decide +kernel)⟩
theorem lw_p28 : lw_okq (⟨"SnakeLadders$Outlook", "moveUnlessHome", "(IILSnakeLadders$Step;)V"⟩, 8) := ⟨⟨by decide +kernel, by decide +kernel⟩, List.mem_of_getElem? (i := 241) (by decide +kernel), List.mem_of_getElem? (i := 815) (by decide +kernel), List.mem_of_getElem? (i := 816) (by decide +kernel)⟩
theorem lw_p29 : lw_okq (⟨"SnakeLadders$Outlook", "gain", "(IIZ)I"⟩, 8) := ⟨⟨by decide +kernel, by decide +kernel⟩, List.mem_of_getElem? (i := 241) (by decide +kernel), List.mem_of_getElem? (i := 823) (by decide +kernel), List.mem_of_getElem? (i := 824) (by decide +kernel)⟩
theorem lw_p30 : lw_okq (⟨"SnakeLadders$Outlook", "rests", "(II)Z"⟩, 8) := ⟨⟨by decide +kernel, by decide +kernel⟩, List.mem_of_getElem? (i := 241) (by decide +kernel), List.mem_of_getElem? (i := 831) (by decide +kernel), List.mem_of_getElem? (i := 832) (by decide +kernel)⟩
theorem lw_p31 : lw_okq (⟨"SnakeLadders", "amount", "(I)I"⟩, 11) := ⟨⟨by decide +kernel, by decide +kernel⟩, List.mem_of_getElem? (i := 19) (by decide +kernel), List.mem_of_getElem? (i := 894) (by decide +kernel), List.mem_of_getElem? (i := 895) (by decide +kernel)⟩
def lw_privs_2 : List (MethodName × Nat) := [(⟨"SnakeLadders$Board", "leadOf", "(II)I"⟩, 11), (⟨"SnakeLadders", "isPlayer", "(I)Z"⟩, 11), (⟨"SnakeLadders$History", "dropOldest", "()V"⟩, 2), (⟨"SnakeLadders", "isLink", "(I)Z"⟩, 11), (⟨"SnakeLadders", "refuseByTen", "()I"⟩, 11), (⟨"SnakeLadders$Outlook", "spreadFrom", "(III)V"⟩, 8), (⟨"SnakeLadders$Outlook", "addRows", "(II)V"⟩, 8), (⟨"SnakeLadders", "keepFraction", "(JJ)I"⟩, 11), (⟨"SnakeLadders", "areUnlikePlayers", "(II)Z"⟩, 11), (⟨"SnakeLadders$Guess", "fitsNotes", "(LSnakeLadders$Board;LSnakeLadders$Seen;II)Z"⟩, 1), (⟨"SnakeLadders$Guess", "mostAlike", "(I)I"⟩, 1), (⟨"SnakeLadders$Guess", "alikeTo", "(II)I"⟩, 1), (⟨"SnakeLadders$Outlook", "moveUnlessHome", "(IILSnakeLadders$Step;)V"⟩, 8), (⟨"SnakeLadders$Outlook", "gain", "(IIZ)I"⟩, 8), (⟨"SnakeLadders$Outlook", "rests", "(II)Z"⟩, 8), (⟨"SnakeLadders", "amount", "(I)I"⟩, 11)]
theorem lw_r2 : ∀ q ∈ lw_privs_2, lw_okq q := List.forall_mem_cons.mpr ⟨lw_p16, List.forall_mem_cons.mpr ⟨lw_p17, List.forall_mem_cons.mpr ⟨lw_p18, List.forall_mem_cons.mpr ⟨lw_p19, List.forall_mem_cons.mpr ⟨lw_p20, List.forall_mem_cons.mpr ⟨lw_p21, List.forall_mem_cons.mpr ⟨lw_p22, List.forall_mem_cons.mpr ⟨lw_p23, List.forall_mem_cons.mpr ⟨lw_p24, List.forall_mem_cons.mpr ⟨lw_p25, List.forall_mem_cons.mpr ⟨lw_p26, List.forall_mem_cons.mpr ⟨lw_p27, List.forall_mem_cons.mpr ⟨lw_p28, List.forall_mem_cons.mpr ⟨lw_p29, List.forall_mem_cons.mpr ⟨lw_p30, List.forall_mem_cons.mpr ⟨lw_p31, fun _ h => absurd h List.not_mem_nil⟩⟩⟩⟩⟩⟩⟩⟩⟩⟩⟩⟩⟩⟩⟩⟩
theorem lw_p32 : lw_okq (⟨"SnakeLaddersModel", "bad", "(I)I"⟩, 14) := ⟨⟨by decide +kernel, by decide +kernel⟩, List.mem_of_getElem? (i := 922) (by decide +kernel), List.mem_of_getElem? (i := 982) (by decide +kernel), List.mem_of_getElem? (i := 983) (by decide +kernel)⟩
theorem lw_p33 : lw_okq (⟨"SnakeLaddersModel", "empties", "(I)V"⟩, 14) := ⟨⟨by decide +kernel, by decide +kernel⟩, List.mem_of_getElem? (i := 922) (by decide +kernel), List.mem_of_getElem? (i := 986) (by decide +kernel), List.mem_of_getElem? (i := 987) (by decide +kernel)⟩
theorem lw_p34 : lw_okq (⟨"SnakeLaddersModel", "isSquare", "(I)Z"⟩, 14) := ⟨⟨by decide +kernel, by decide +kernel⟩, List.mem_of_getElem? (i := 922) (by decide +kernel), List.mem_of_getElem? (i := 999) (by decide +kernel), List.mem_of_getElem? (i := 1000) (by decide +kernel)⟩
theorem lw_p35 : lw_okq (⟨"SnakeLaddersModel", "linkFrom", "(II)I"⟩, 14) := ⟨⟨by decide +kernel, by decide +kernel⟩, List.mem_of_getElem? (i := 922) (by decide +kernel), List.mem_of_getElem? (i := 1003) (by decide +kernel), List.mem_of_getElem? (i := 1004) (by decide +kernel)⟩
theorem lw_p36 : lw_okq (⟨"SnakeLaddersModel", "no", "()I"⟩, 14) := ⟨⟨by decide +kernel, by decide +kernel⟩, List.mem_of_getElem? (i := 922) (by decide +kernel), List.mem_of_getElem? (i := 1007) (by decide +kernel), List.mem_of_getElem? (i := 1008) (by decide +kernel)⟩
theorem lw_p37 : lw_okq (⟨"SnakeLaddersModel", "full", "()I"⟩, 14) := ⟨⟨by decide +kernel, by decide +kernel⟩, List.mem_of_getElem? (i := 922) (by decide +kernel), List.mem_of_getElem? (i := 1011) (by decide +kernel), List.mem_of_getElem? (i := 1012) (by decide +kernel)⟩
theorem lw_p38 : lw_okq (⟨"SnakeLaddersModel", "addsLink", "(IIII)V"⟩, 14) := ⟨⟨by decide +kernel, by decide +kernel⟩, List.mem_of_getElem? (i := 922) (by decide +kernel), List.mem_of_getElem? (i := 1015) (by decide +kernel), List.mem_of_getElem? (i := 1016) (by decide +kernel)⟩
theorem lw_p39 : lw_okq (⟨"SnakeLaddersModel", "addsPlayer", "(II)V"⟩, 14) := ⟨⟨by decide +kernel, by decide +kernel⟩, List.mem_of_getElem? (i := 922) (by decide +kernel), List.mem_of_getElem? (i := 1023) (by decide +kernel), List.mem_of_getElem? (i := 1024) (by decide +kernel)⟩
theorem lw_p40 : lw_okq (⟨"SnakeLaddersModel", "blanks", "()V"⟩, 14) := ⟨⟨by decide +kernel, by decide +kernel⟩, List.mem_of_getElem? (i := 922) (by decide +kernel), List.mem_of_getElem? (i := 1040) (by decide +kernel), List.mem_of_getElem? (i := 1041) (by decide +kernel)⟩
theorem lw_p41 : lw_okq (⟨"SnakeLaddersModel", "byteAt", "(I)I"⟩, 14) := ⟨⟨by decide +kernel, by decide +kernel⟩, List.mem_of_getElem? (i := 922) (by decide +kernel), List.mem_of_getElem? (i := 1044) (by decide +kernel), List.mem_of_getElem? (i := 1045) (by decide +kernel)⟩
theorem lw_p42 : lw_okq (⟨"SnakeLaddersModel", "readsItem", "(Z)Z"⟩, 14) := ⟨⟨by decide +kernel, by decide +kernel⟩, List.mem_of_getElem? (i := 922) (by decide +kernel), List.mem_of_getElem? (i := 1048) (by decide +kernel), List.mem_of_getElem? (i := 1049) (by decide +kernel)⟩
theorem lw_p43 : lw_okq (⟨"SnakeLaddersModel", "takesWord", "()V"⟩, 14) := ⟨⟨by decide +kernel, by decide +kernel⟩, List.mem_of_getElem? (i := 922) (by decide +kernel), List.mem_of_getElem? (i := 1052) (by decide +kernel), List.mem_of_getElem? (i := 1053) (by decide +kernel)⟩
theorem lw_p44 : lw_okq (⟨"SnakeLaddersModel", "wordOf", "()I"⟩, 14) := ⟨⟨by decide +kernel, by decide +kernel⟩, List.mem_of_getElem? (i := 922) (by decide +kernel), List.mem_of_getElem? (i := 1058) (by decide +kernel), List.mem_of_getElem? (i := 1059) (by decide +kernel)⟩
theorem lw_p45 : lw_okq (⟨"SnakeLaddersModel", "isWord", "(IIIIII)Z"⟩, 14) := ⟨⟨by decide +kernel, by decide +kernel⟩, List.mem_of_getElem? (i := 922) (by decide +kernel), List.mem_of_getElem? (i := 1062) (by decide +kernel), List.mem_of_getElem? (i := 1063) (by decide +kernel)⟩
theorem lw_p46 : lw_okq (⟨"SnakeLaddersModel", "isLetter", "(III)Z"⟩, 14) := ⟨⟨by decide +kernel, by decide +kernel⟩, List.mem_of_getElem? (i := 922) (by decide +kernel), List.mem_of_getElem? (i := 1066) (by decide +kernel), List.mem_of_getElem? (i := 1067) (by decide +kernel)⟩
theorem lw_p47 : lw_okq (⟨"SnakeLaddersModel", "readsBoard", "()Z"⟩, 14) := ⟨⟨by decide +kernel, by decide +kernel⟩, List.mem_of_getElem? (i := 922) (by decide +kernel), List.mem_of_getElem? (i := 1070) (by decide +kernel), List.mem_of_getElem? (i := 1071) (by decide +kernel)⟩
def lw_privs_3 : List (MethodName × Nat) := [(⟨"SnakeLaddersModel", "bad", "(I)I"⟩, 14), (⟨"SnakeLaddersModel", "empties", "(I)V"⟩, 14), (⟨"SnakeLaddersModel", "isSquare", "(I)Z"⟩, 14), (⟨"SnakeLaddersModel", "linkFrom", "(II)I"⟩, 14), (⟨"SnakeLaddersModel", "no", "()I"⟩, 14), (⟨"SnakeLaddersModel", "full", "()I"⟩, 14), (⟨"SnakeLaddersModel", "addsLink", "(IIII)V"⟩, 14), (⟨"SnakeLaddersModel", "addsPlayer", "(II)V"⟩, 14), (⟨"SnakeLaddersModel", "blanks", "()V"⟩, 14), (⟨"SnakeLaddersModel", "byteAt", "(I)I"⟩, 14), (⟨"SnakeLaddersModel", "readsItem", "(Z)Z"⟩, 14), (⟨"SnakeLaddersModel", "takesWord", "()V"⟩, 14), (⟨"SnakeLaddersModel", "wordOf", "()I"⟩, 14), (⟨"SnakeLaddersModel", "isWord", "(IIIIII)Z"⟩, 14), (⟨"SnakeLaddersModel", "isLetter", "(III)Z"⟩, 14), (⟨"SnakeLaddersModel", "readsBoard", "()Z"⟩, 14)]
theorem lw_r3 : ∀ q ∈ lw_privs_3, lw_okq q := List.forall_mem_cons.mpr ⟨lw_p32, List.forall_mem_cons.mpr ⟨lw_p33, List.forall_mem_cons.mpr ⟨lw_p34, List.forall_mem_cons.mpr ⟨lw_p35, List.forall_mem_cons.mpr ⟨lw_p36, List.forall_mem_cons.mpr ⟨lw_p37, List.forall_mem_cons.mpr ⟨lw_p38, List.forall_mem_cons.mpr ⟨lw_p39, List.forall_mem_cons.mpr ⟨lw_p40, List.forall_mem_cons.mpr ⟨lw_p41, List.forall_mem_cons.mpr ⟨lw_p42, List.forall_mem_cons.mpr ⟨lw_p43, List.forall_mem_cons.mpr ⟨lw_p44, List.forall_mem_cons.mpr ⟨lw_p45, List.forall_mem_cons.mpr ⟨lw_p46, List.forall_mem_cons.mpr ⟨lw_p47, fun _ h => absurd h List.not_mem_nil⟩⟩⟩⟩⟩⟩⟩⟩⟩⟩⟩⟩⟩⟩⟩⟩
theorem lw_p48 : lw_okq (⟨"SnakeLaddersModel", "takesNumber", "(II)Z"⟩, 14) := ⟨⟨by decide +kernel, by decide +kernel⟩, List.mem_of_getElem? (i := 922) (by decide +kernel), List.mem_of_getElem? (i := 1074) (by decide +kernel), List.mem_of_getElem? (i := 1075) (by decide +kernel)⟩
theorem lw_p49 : lw_okq (⟨"SnakeLaddersModel", "readsLink", "()Z"⟩, 14) := ⟨⟨by decide +kernel, by decide +kernel⟩, List.mem_of_getElem? (i := 922) (by decide +kernel), List.mem_of_getElem? (i := 1080) (by decide +kernel), List.mem_of_getElem? (i := 1081) (by decide +kernel)⟩
theorem lw_p50 : lw_okq (⟨"SnakeLaddersModel", "readsPlayer", "()Z"⟩, 14) := ⟨⟨by decide +kernel, by decide +kernel⟩, List.mem_of_getElem? (i := 922) (by decide +kernel), List.mem_of_getElem? (i := 1084) (by decide +kernel), List.mem_of_getElem? (i := 1085) (by decide +kernel)⟩
theorem lw_p51 : lw_okq (⟨"SnakeLaddersModel", "readsSet", "()Z"⟩, 14) := ⟨⟨by decide +kernel, by decide +kernel⟩, List.mem_of_getElem? (i := 922) (by decide +kernel), List.mem_of_getElem? (i := 1088) (by decide +kernel), List.mem_of_getElem? (i := 1089) (by decide +kernel)⟩
theorem lw_p52 : lw_okq (⟨"SnakeLaddersModel", "readsThrows", "()Z"⟩, 14) := ⟨⟨by decide +kernel, by decide +kernel⟩, List.mem_of_getElem? (i := 922) (by decide +kernel), List.mem_of_getElem? (i := 1092) (by decide +kernel), List.mem_of_getElem? (i := 1093) (by decide +kernel)⟩
theorem lw_p53 : lw_okq (⟨"SnakeLaddersModel", "isHome", "(II)Z"⟩, 14) := ⟨⟨by decide +kernel, by decide +kernel⟩, List.mem_of_getElem? (i := 922) (by decide +kernel), List.mem_of_getElem? (i := 1096) (by decide +kernel), List.mem_of_getElem? (i := 1097) (by decide +kernel)⟩
theorem lw_p54 : lw_okq (⟨"SnakeLaddersModel", "throwsOne", "(III)V"⟩, 14) := ⟨⟨by decide +kernel, by decide +kernel⟩, List.mem_of_getElem? (i := 922) (by decide +kernel), List.mem_of_getElem? (i := 1100) (by decide +kernel), List.mem_of_getElem? (i := 1101) (by decide +kernel)⟩
theorem lw_p55 : lw_okq (⟨"SnakeLaddersModel", "takesEnd", "()Z"⟩, 14) := ⟨⟨by decide +kernel, by decide +kernel⟩, List.mem_of_getElem? (i := 922) (by decide +kernel), List.mem_of_getElem? (i := 1122) (by decide +kernel), List.mem_of_getElem? (i := 1123) (by decide +kernel)⟩
theorem lw_p56 : lw_okq (⟨"SnakeLaddersModel", "copy", "(II)V"⟩, 14) := ⟨⟨by decide +kernel, by decide +kernel⟩, List.mem_of_getElem? (i := 922) (by decide +kernel), List.mem_of_getElem? (i := 1126) (by decide +kernel), List.mem_of_getElem? (i := 1127) (by decide +kernel)⟩
theorem lw_p57 : lw_okq (⟨"SnakeLaddersModel", "isPlayer", "(I)Z"⟩, 14) := ⟨⟨by decide +kernel, by decide +kernel⟩, List.mem_of_getElem? (i := 922) (by decide +kernel), List.mem_of_getElem? (i := 1134) (by decide +kernel), List.mem_of_getElem? (i := 1135) (by decide +kernel)⟩
theorem lw_p58 : lw_okq (⟨"SnakeLaddersModel", "isSide", "(I)Z"⟩, 14) := ⟨⟨by decide +kernel, by decide +kernel⟩, List.mem_of_getElem? (i := 922) (by decide +kernel), List.mem_of_getElem? (i := 1138) (by decide +kernel), List.mem_of_getElem? (i := 1139) (by decide +kernel)⟩
theorem lw_p59 : lw_okq (⟨"SnakeLaddersModel", "minds", "()V"⟩, 14) := ⟨⟨by decide +kernel, by decide +kernel⟩, List.mem_of_getElem? (i := 922) (by decide +kernel), List.mem_of_getElem? (i := 1142) (by decide +kernel), List.mem_of_getElem? (i := 1143) (by decide +kernel)⟩
theorem lw_p60 : lw_okq (⟨"SnakeLaddersModel", "homes", "(I)I"⟩, 14) := ⟨⟨by decide +kernel, by decide +kernel⟩, List.mem_of_getElem? (i := 922) (by decide +kernel), List.mem_of_getElem? (i := 1154) (by decide +kernel), List.mem_of_getElem? (i := 1155) (by decide +kernel)⟩
theorem lw_p61 : lw_okq (⟨"SnakeLaddersModel", "isLink", "(I)Z"⟩, 14) := ⟨⟨by decide +kernel, by decide +kernel⟩, List.mem_of_getElem? (i := 922) (by decide +kernel), List.mem_of_getElem? (i := 1166) (by decide +kernel), List.mem_of_getElem? (i := 1167) (by decide +kernel)⟩
theorem lw_p62 : lw_okq (⟨"SnakeLaddersModel", "tries", "()V"⟩, 14) := ⟨⟨by decide +kernel, by decide +kernel⟩, List.mem_of_getElem? (i := 922) (by decide +kernel), List.mem_of_getElem? (i := 1175) (by decide +kernel), List.mem_of_getElem? (i := 1176) (by decide +kernel)⟩
theorem lw_p63 : lw_okq (⟨"SnakeLaddersModel", "rollsTried", "(II)V"⟩, 14) := ⟨⟨by decide +kernel, by decide +kernel⟩, List.mem_of_getElem? (i := 922) (by decide +kernel), List.mem_of_getElem? (i := 1179) (by decide +kernel), List.mem_of_getElem? (i := 1180) (by decide +kernel)⟩
def lw_privs_4 : List (MethodName × Nat) := [(⟨"SnakeLaddersModel", "takesNumber", "(II)Z"⟩, 14), (⟨"SnakeLaddersModel", "readsLink", "()Z"⟩, 14), (⟨"SnakeLaddersModel", "readsPlayer", "()Z"⟩, 14), (⟨"SnakeLaddersModel", "readsSet", "()Z"⟩, 14), (⟨"SnakeLaddersModel", "readsThrows", "()Z"⟩, 14), (⟨"SnakeLaddersModel", "isHome", "(II)Z"⟩, 14), (⟨"SnakeLaddersModel", "throwsOne", "(III)V"⟩, 14), (⟨"SnakeLaddersModel", "takesEnd", "()Z"⟩, 14), (⟨"SnakeLaddersModel", "copy", "(II)V"⟩, 14), (⟨"SnakeLaddersModel", "isPlayer", "(I)Z"⟩, 14), (⟨"SnakeLaddersModel", "isSide", "(I)Z"⟩, 14), (⟨"SnakeLaddersModel", "minds", "()V"⟩, 14), (⟨"SnakeLaddersModel", "homes", "(I)I"⟩, 14), (⟨"SnakeLaddersModel", "isLink", "(I)Z"⟩, 14), (⟨"SnakeLaddersModel", "tries", "()V"⟩, 14), (⟨"SnakeLaddersModel", "rollsTried", "(II)V"⟩, 14)]
theorem lw_r4 : ∀ q ∈ lw_privs_4, lw_okq q := List.forall_mem_cons.mpr ⟨lw_p48, List.forall_mem_cons.mpr ⟨lw_p49, List.forall_mem_cons.mpr ⟨lw_p50, List.forall_mem_cons.mpr ⟨lw_p51, List.forall_mem_cons.mpr ⟨lw_p52, List.forall_mem_cons.mpr ⟨lw_p53, List.forall_mem_cons.mpr ⟨lw_p54, List.forall_mem_cons.mpr ⟨lw_p55, List.forall_mem_cons.mpr ⟨lw_p56, List.forall_mem_cons.mpr ⟨lw_p57, List.forall_mem_cons.mpr ⟨lw_p58, List.forall_mem_cons.mpr ⟨lw_p59, List.forall_mem_cons.mpr ⟨lw_p60, List.forall_mem_cons.mpr ⟨lw_p61, List.forall_mem_cons.mpr ⟨lw_p62, List.forall_mem_cons.mpr ⟨lw_p63, fun _ h => absurd h List.not_mem_nil⟩⟩⟩⟩⟩⟩⟩⟩⟩⟩⟩⟩⟩⟩⟩⟩
theorem lw_p64 : lw_okq (⟨"SnakeLaddersModel", "rowsOf", "(I)I"⟩, 14) := ⟨⟨by decide +kernel, by decide +kernel⟩, List.mem_of_getElem? (i := 922) (by decide +kernel), List.mem_of_getElem? (i := 1187) (by decide +kernel), List.mem_of_getElem? (i := 1188) (by decide +kernel)⟩
theorem lw_p65 : lw_okq (⟨"SnakeLaddersModel", "plays", "(III)V"⟩, 14) := ⟨⟨by decide +kernel, by decide +kernel⟩, List.mem_of_getElem? (i := 922) (by decide +kernel), List.mem_of_getElem? (i := 1191) (by decide +kernel), List.mem_of_getElem? (i := 1192) (by decide +kernel)⟩
theorem lw_p66 : lw_okq (⟨"SnakeLaddersModel", "told", "(JJ)I"⟩, 14) := ⟨⟨by decide +kernel, by decide +kernel⟩, List.mem_of_getElem? (i := 922) (by decide +kernel), List.mem_of_getElem? (i := 1199) (by decide +kernel), List.mem_of_getElem? (i := 1200) (by decide +kernel)⟩
theorem lw_p67 : lw_okq (⟨"SnakeLaddersModel", "keeps", "(IIIII)V"⟩, 14) := ⟨⟨by decide +kernel, by decide +kernel⟩, List.mem_of_getElem? (i := 922) (by decide +kernel), List.mem_of_getElem? (i := 1229) (by decide +kernel), List.mem_of_getElem? (i := 1230) (by decide +kernel)⟩
theorem lw_p68 : lw_okq (⟨"SnakeLaddersModel", "isOf", "(I)I"⟩, 14) := ⟨⟨by decide +kernel, by decide +kernel⟩, List.mem_of_getElem? (i := 922) (by decide +kernel), List.mem_of_getElem? (i := 1245) (by decide +kernel), List.mem_of_getElem? (i := 1246) (by decide +kernel)⟩
theorem lw_p69 : lw_okq (⟨"SnakeLaddersModel", "leads", "(IIII)I"⟩, 14) := ⟨⟨by decide +kernel, by decide +kernel⟩, List.mem_of_getElem? (i := 922) (by decide +kernel), List.mem_of_getElem? (i := 1249) (by decide +kernel), List.mem_of_getElem? (i := 1250) (by decide +kernel)⟩
theorem lw_p70 : lw_okq (⟨"SnakeLaddersModel", "whatOf", "(I)I"⟩, 14) := ⟨⟨by decide +kernel, by decide +kernel⟩, List.mem_of_getElem? (i := 922) (by decide +kernel), List.mem_of_getElem? (i := 1265) (by decide +kernel), List.mem_of_getElem? (i := 1266) (by decide +kernel)⟩
theorem lw_p71 : lw_okq (⟨"SnakeLaddersModel", "gains", "(II)V"⟩, 14) := ⟨⟨by decide +kernel, by decide +kernel⟩, List.mem_of_getElem? (i := 922) (by decide +kernel), List.mem_of_getElem? (i := 1277) (by decide +kernel), List.mem_of_getElem? (i := 1278) (by decide +kernel)⟩
theorem lw_p72 : lw_okq (⟨"SnakeLaddersModel", "rests", "(II)Z"⟩, 14) := ⟨⟨by decide +kernel, by decide +kernel⟩, List.mem_of_getElem? (i := 922) (by decide +kernel), List.mem_of_getElem? (i := 1281) (by decide +kernel), List.mem_of_getElem? (i := 1282) (by decide +kernel)⟩
theorem lw_p73 : lw_okq (⟨"SnakeLaddersModel", "countOf", "(I)I"⟩, 14) := ⟨⟨by decide +kernel, by decide +kernel⟩, List.mem_of_getElem? (i := 922) (by decide +kernel), List.mem_of_getElem? (i := 1316) (by decide +kernel), List.mem_of_getElem? (i := 1317) (by decide +kernel)⟩
theorem lw_p74 : lw_okq (⟨"SnakeLaddersModel", "sumOf", "(II)I"⟩, 14) := ⟨⟨by decide +kernel, by decide +kernel⟩, List.mem_of_getElem? (i := 922) (by decide +kernel), List.mem_of_getElem? (i := 1320) (by decide +kernel), List.mem_of_getElem? (i := 1321) (by decide +kernel)⟩
theorem lw_p75 : lw_okq (⟨"SnakeLaddersModel", "mix", "(J)V"⟩, 14) := ⟨⟨by decide +kernel, by decide +kernel⟩, List.mem_of_getElem? (i := 922) (by decide +kernel), List.mem_of_getElem? (i := 1329) (by decide +kernel), List.mem_of_getElem? (i := 1330) (by decide +kernel)⟩
theorem lw_p76 : lw_okq (⟨"SnakeLaddersModel", "mixes", "(II)V"⟩, 14) := ⟨⟨by decide +kernel, by decide +kernel⟩, List.mem_of_getElem? (i := 922) (by decide +kernel), List.mem_of_getElem? (i := 1334) (by decide +kernel), List.mem_of_getElem? (i := 1335) (by decide +kernel)⟩
def lw_privs_5 : List (MethodName × Nat) := [(⟨"SnakeLaddersModel", "rowsOf", "(I)I"⟩, 14), (⟨"SnakeLaddersModel", "plays", "(III)V"⟩, 14), (⟨"SnakeLaddersModel", "told", "(JJ)I"⟩, 14), (⟨"SnakeLaddersModel", "keeps", "(IIIII)V"⟩, 14), (⟨"SnakeLaddersModel", "isOf", "(I)I"⟩, 14), (⟨"SnakeLaddersModel", "leads", "(IIII)I"⟩, 14), (⟨"SnakeLaddersModel", "whatOf", "(I)I"⟩, 14), (⟨"SnakeLaddersModel", "gains", "(II)V"⟩, 14), (⟨"SnakeLaddersModel", "rests", "(II)Z"⟩, 14), (⟨"SnakeLaddersModel", "countOf", "(I)I"⟩, 14), (⟨"SnakeLaddersModel", "sumOf", "(II)I"⟩, 14), (⟨"SnakeLaddersModel", "mix", "(J)V"⟩, 14), (⟨"SnakeLaddersModel", "mixes", "(II)V"⟩, 14)]
theorem lw_r5 : ∀ q ∈ lw_privs_5, lw_okq q := List.forall_mem_cons.mpr ⟨lw_p64, List.forall_mem_cons.mpr ⟨lw_p65, List.forall_mem_cons.mpr ⟨lw_p66, List.forall_mem_cons.mpr ⟨lw_p67, List.forall_mem_cons.mpr ⟨lw_p68, List.forall_mem_cons.mpr ⟨lw_p69, List.forall_mem_cons.mpr ⟨lw_p70, List.forall_mem_cons.mpr ⟨lw_p71, List.forall_mem_cons.mpr ⟨lw_p72, List.forall_mem_cons.mpr ⟨lw_p73, List.forall_mem_cons.mpr ⟨lw_p74, List.forall_mem_cons.mpr ⟨lw_p75, List.forall_mem_cons.mpr ⟨lw_p76, fun _ h => absurd h List.not_mem_nil⟩⟩⟩⟩⟩⟩⟩⟩⟩⟩⟩⟩⟩
def lw_privs : List (MethodName × Nat) := lw_privs_1 ++ (lw_privs_2 ++ (lw_privs_3 ++ (lw_privs_4 ++ (lw_privs_5))))
def lw_tbl : List Cond := k2_sels lw_privs ++ tables_1
theorem lw_privs_ok : ∀ q ∈ lw_privs, lw_okq q := by
  show ∀ q ∈ lw_privs_1 ++ (lw_privs_2 ++ (lw_privs_3 ++ (lw_privs_4 ++ (lw_privs_5)))), lw_okq q
  exact List.forall_mem_append.mpr ⟨lw_r1, List.forall_mem_append.mpr ⟨lw_r2, List.forall_mem_append.mpr ⟨lw_r3, List.forall_mem_append.mpr ⟨lw_r4, lw_r5⟩⟩⟩⟩
end
section
def RX0 : String := "SnakeLadders$Board"
def TX0 : u_T := fun k => match k with
  | 0 => ("SnakeLadders$Board", "length", "I", false)
  | 1 => ("SnakeLadders$Board", "sides", "I", false)
  | 2 => ("SnakeLadders$Board", "links", "I", false)
  | 3 => ("SnakeLadders$Board", "players", "I", false)
  | 4 => ("SnakeLadders$Board", "linkKind", "[I", true)
  | 5 => ("SnakeLadders$Board", "linkFrom", "[I", true)
  | 6 => ("SnakeLadders$Board", "linkTo", "[I", true)
  | 7 => ("SnakeLadders$Board", "used", "[I", true)
  | 8 => ("SnakeLadders$Board", "playerKind", "[I", true)
  | 9 => ("SnakeLadders$Board", "square", "[I", true)
  | _ => ("SnakeLadders$Board", "thrown", "[I", true)
def tyX0 : Nat → FieldType := fun k => match k with
  | 0 => .int
  | 1 => .int
  | 2 => .int
  | 3 => .int
  | 4 => .array .int
  | 5 => .array .int
  | 6 => .array .int
  | 7 => .array .int
  | 8 => .array .int
  | 9 => .array .int
  | _ => .array .int
theorem nmX0 : ∀ a, a < 11 → ∀ b, b < 11 → a ≠ b → (TX0 a).2.1 ≠ (TX0 b).2.1 := by decide +kernel
theorem tyX0_ok : ∀ k, k < 11 → parseFieldDescriptor (TX0 k).2.2.1 = some (tyX0 k) := by decide +kernel
abbrev cX0_init : ByteArray := prog_2_method_1_code
def yX0_init : MethodName := ⟨RX0, "<init>", "()V"⟩
abbrev cX0_start : ByteArray := prog_2_method_2_code
def yX0_start : MethodName := ⟨RX0, "start", "(II)V"⟩
abbrev cX0_copy : ByteArray := prog_2_method_3_code
def yX0_copy : MethodName := ⟨RX0, "copy", "(LSnakeLadders$Board;)V"⟩
abbrev cX0_addLink : ByteArray := prog_2_method_4_code
def yX0_addLink : MethodName := ⟨RX0, "addLink", "(III)I"⟩
abbrev cX0_addPlayer : ByteArray := prog_2_method_5_code
def yX0_addPlayer : MethodName := ⟨RX0, "addPlayer", "(I)I"⟩
abbrev cX0_linkOn : ByteArray := prog_2_method_6_code
def yX0_linkOn : MethodName := ⟨RX0, "linkOn", "(I)I"⟩
abbrev cX0_isHome : ByteArray := prog_2_method_7_code
def yX0_isHome : MethodName := ⟨RX0, "isHome", "(I)Z"⟩
abbrev cX0_homes : ByteArray := prog_2_method_8_code
def yX0_homes : MethodName := ⟨RX0, "homes", "()I"⟩
abbrev cX0_thrownByAll : ByteArray := prog_2_method_9_code
def yX0_thrownByAll : MethodName := ⟨RX0, "thrownByAll", "()I"⟩
abbrev cX0_usedOfAll : ByteArray := prog_2_method_10_code
def yX0_usedOfAll : MethodName := ⟨RX0, "usedOfAll", "()I"⟩
abbrev cX0_landing : ByteArray := prog_2_method_11_code
def yX0_landing : MethodName := ⟨RX0, "landing", "(II)I"⟩
abbrev cX0_move : ByteArray := prog_2_method_12_code
def yX0_move : MethodName := ⟨RX0, "move", "(IILSnakeLadders$Step;)V"⟩
abbrev cX0_remember : ByteArray := prog_2_method_13_code
def yX0_remember : MethodName := ⟨RX0, "remember", "(ILSnakeLadders$Step;)V"⟩
abbrev cX0_takeBack : ByteArray := prog_2_method_14_code
def yX0_takeBack : MethodName := ⟨RX0, "takeBack", "(LSnakeLadders$Step;)V"⟩
abbrev cX0_linkMet : ByteArray := prog_2_method_15_code
def yX0_linkMet : MethodName := ⟨RX0, "linkMet", "(II)I"⟩
abbrev cX0_leadOf : ByteArray := prog_2_method_16_code
def yX0_leadOf : MethodName := ⟨RX0, "leadOf", "(II)I"⟩
def RX1 : String := "SnakeLadders$Game"
def TX1 : u_T := fun k => match k with
  | 0 => ("SnakeLadders$Game", "board", "LSnakeLadders$Board;", true)
  | 1 => ("SnakeLadders$Game", "history", "LSnakeLadders$History;", true)
  | 2 => ("SnakeLadders$Game", "notes", "LSnakeLadders$Seen;", true)
  | _ => ("SnakeLadders$Game", "marks", "LSnakeLadders$Seen;", true)
def tyX1 : Nat → FieldType := fun k => match k with
  | 0 => .object "SnakeLadders$Board"
  | 1 => .object "SnakeLadders$History"
  | 2 => .object "SnakeLadders$Seen"
  | _ => .object "SnakeLadders$Seen"
theorem nmX1 : ∀ a, a < 4 → ∀ b, b < 4 → a ≠ b → (TX1 a).2.1 ≠ (TX1 b).2.1 := by decide +kernel
theorem tyX1_ok : ∀ k, k < 4 → parseFieldDescriptor (TX1 k).2.2.1 = some (tyX1 k) := by decide +kernel
abbrev cX1_init : ByteArray := prog_3_method_1_code
def yX1_init : MethodName := ⟨RX1, "<init>", "()V"⟩
abbrev cX1_dropPast : ByteArray := prog_3_method_2_code
def yX1_dropPast : MethodName := ⟨RX1, "dropPast", "()V"⟩
abbrev cX1_copy : ByteArray := prog_3_method_3_code
def yX1_copy : MethodName := ⟨RX1, "copy", "(LSnakeLadders$Game;)V"⟩
abbrev cX1_digestOn : ByteArray := prog_3_method_4_code
def yX1_digestOn : MethodName := ⟨RX1, "digestOn", "(J)J"⟩
def RX2 : String := "SnakeLadders$Guess"
def TX2 : u_T := fun k => match k with
  | _ => ("SnakeLadders$Guess", "ends", "[I", true)
def tyX2 : Nat → FieldType := fun k => match k with
  | _ => .array .int
theorem nmX2 : ∀ a, a < 1 → ∀ b, b < 1 → a ≠ b → (TX2 a).2.1 ≠ (TX2 b).2.1 := by decide +kernel
theorem tyX2_ok : ∀ k, k < 1 → parseFieldDescriptor (TX2 k).2.2.1 = some (tyX2 k) := by decide +kernel
abbrev cX2_init : ByteArray := prog_4_method_1_code
def yX2_init : MethodName := ⟨RX2, "<init>", "()V"⟩
abbrev cX2_linkKinds : ByteArray := prog_4_method_2_code
def yX2_linkKinds : MethodName := ⟨RX2, "linkKinds", "(LSnakeLadders$Board;LSnakeLadders$Seen;I)I"⟩
abbrev cX2_fitsNotes : ByteArray := prog_4_method_3_code
def yX2_fitsNotes : MethodName := ⟨RX2, "fitsNotes", "(LSnakeLadders$Board;LSnakeLadders$Seen;II)Z"⟩
abbrev cX2_lead : ByteArray := prog_4_method_4_code
def yX2_lead : MethodName := ⟨RX2, "lead", "(LSnakeLadders$Board;IIII)I"⟩
abbrev cX2_bestLook : ByteArray := prog_4_method_5_code
def yX2_bestLook : MethodName := ⟨RX2, "bestLook", "(LSnakeLadders$Board;LSnakeLadders$Seen;I)I"⟩
abbrev cX2_playerKinds : ByteArray := prog_4_method_6_code
def yX2_playerKinds : MethodName := ⟨RX2, "playerKinds", "(LSnakeLadders$Board;LSnakeLadders$Seen;I)I"⟩
abbrev cX2_fitsMarks : ByteArray := prog_4_method_7_code
def yX2_fitsMarks : MethodName := ⟨RX2, "fitsMarks", "(LSnakeLadders$Board;LSnakeLadders$Seen;II)Z"⟩
abbrev cX2_bestAsk : ByteArray := prog_4_method_8_code
def yX2_bestAsk : MethodName := ⟨RX2, "bestAsk", "(LSnakeLadders$Board;LSnakeLadders$Seen;I)I"⟩
abbrev cX2_mostAlike : ByteArray := prog_4_method_9_code
def yX2_mostAlike : MethodName := ⟨RX2, "mostAlike", "(I)I"⟩
abbrev cX2_alikeTo : ByteArray := prog_4_method_10_code
def yX2_alikeTo : MethodName := ⟨RX2, "alikeTo", "(II)I"⟩
def RX3 : String := "SnakeLadders$History"
def TX3 : u_T := fun k => match k with
  | 0 => ("SnakeLadders$History", "size", "I", false)
  | _ => ("SnakeLadders$History", "steps", "[LSnakeLadders$Step;", true)
def tyX3 : Nat → FieldType := fun k => match k with
  | 0 => .int
  | _ => .array (.object "SnakeLadders$Step")
theorem nmX3 : ∀ a, a < 2 → ∀ b, b < 2 → a ≠ b → (TX3 a).2.1 ≠ (TX3 b).2.1 := by decide +kernel
theorem tyX3_ok : ∀ k, k < 2 → parseFieldDescriptor (TX3 k).2.2.1 = some (tyX3 k) := by decide +kernel
abbrev cX3_init : ByteArray := prog_5_method_1_code
def yX3_init : MethodName := ⟨RX3, "<init>", "()V"⟩
abbrev cX3_manySteps : ByteArray := prog_5_method_2_code
def yX3_manySteps : MethodName := ⟨RX3, "manySteps", "(I)[LSnakeLadders$Step;"⟩
abbrev cX3_empty : ByteArray := prog_5_method_3_code
def yX3_empty : MethodName := ⟨RX3, "empty", "()V"⟩
abbrev cX3_nextStep : ByteArray := prog_5_method_4_code
def yX3_nextStep : MethodName := ⟨RX3, "nextStep", "()LSnakeLadders$Step;"⟩
abbrev cX3_dropOldest : ByteArray := prog_5_method_5_code
def yX3_dropOldest : MethodName := ⟨RX3, "dropOldest", "()V"⟩
abbrev cX3_takeBack : ByteArray := prog_5_method_6_code
def yX3_takeBack : MethodName := ⟨RX3, "takeBack", "(LSnakeLadders$Board;)V"⟩
abbrev cX3_copy : ByteArray := prog_5_method_7_code
def yX3_copy : MethodName := ⟨RX3, "copy", "(LSnakeLadders$History;)V"⟩
def RX4 : String := "SnakeLadders$LinkKinds"
def TX4 : u_T := fun k => match k with
  | _ => ("", "", "", false)
def tyX4 : Nat → FieldType := fun k => match k with
  | _ => .int
theorem nmX4 : ∀ a, a < 0 → ∀ b, b < 0 → a ≠ b → (TX4 a).2.1 ≠ (TX4 b).2.1 := by decide +kernel
theorem tyX4_ok : ∀ k, k < 0 → parseFieldDescriptor (TX4 k).2.2.1 = some (tyX4 k) := by decide +kernel
abbrev cX4_square : ByteArray := prog_6_method_2_code
def yX4_square : MethodName := ⟨RX4, "square", "(IIIIII)I"⟩
def RX5 : String := "SnakeLadders$Outlook"
def TX5 : u_T := fun k => match k with
  | 0 => ("SnakeLadders$Outlook", "board", "LSnakeLadders$Board;", true)
  | 1 => ("SnakeLadders$Outlook", "steps", "[LSnakeLadders$Step;", true)
  | 2 => ("SnakeLadders$Outlook", "rowsOn", "[I", true)
  | 3 => ("SnakeLadders$Outlook", "row", "[I", true)
  | 4 => ("SnakeLadders$Outlook", "gainA", "[I", true)
  | 5 => ("SnakeLadders$Outlook", "gainB", "[I", true)
  | 6 => ("SnakeLadders$Outlook", "best", "I", false)
  | _ => ("SnakeLadders$Outlook", "bestRows", "I", false)
def tyX5 : Nat → FieldType := fun k => match k with
  | 0 => .object "SnakeLadders$Board"
  | 1 => .array (.object "SnakeLadders$Step")
  | 2 => .array .int
  | 3 => .array .int
  | 4 => .array .int
  | 5 => .array .int
  | 6 => .int
  | _ => .int
theorem nmX5 : ∀ a, a < 8 → ∀ b, b < 8 → a ≠ b → (TX5 a).2.1 ≠ (TX5 b).2.1 := by decide +kernel
theorem tyX5_ok : ∀ k, k < 8 → parseFieldDescriptor (TX5 k).2.2.1 = some (tyX5 k) := by decide +kernel
abbrev cX5_init : ByteArray := prog_7_method_1_code
def yX5_init : MethodName := ⟨RX5, "<init>", "()V"⟩
abbrev cX5_fewest : ByteArray := prog_7_method_2_code
def yX5_fewest : MethodName := ⟨RX5, "fewest", "(LSnakeLadders$Board;I)I"⟩
abbrev cX5_rowAt : ByteArray := prog_7_method_3_code
def yX5_rowAt : MethodName := ⟨RX5, "rowAt", "(I)I"⟩
abbrev cX5_findRow : ByteArray := prog_7_method_4_code
def yX5_findRow : MethodName := ⟨RX5, "findRow", "(LSnakeLadders$Outlook;III)Z"⟩
abbrev cX5_spread : ByteArray := prog_7_method_5_code
def yX5_spread : MethodName := ⟨RX5, "spread", "(LSnakeLadders$Board;II)V"⟩
abbrev cX5_rowsHome : ByteArray := prog_7_method_6_code
def yX5_rowsHome : MethodName := ⟨RX5, "rowsHome", "()I"⟩
abbrev cX5_sumOfSquares : ByteArray := prog_7_method_7_code
def yX5_sumOfSquares : MethodName := ⟨RX5, "sumOfSquares", "()J"⟩
abbrev cX5_unlikeSquares : ByteArray := prog_7_method_8_code
def yX5_unlikeSquares : MethodName := ⟨RX5, "unlikeSquares", "()I"⟩
abbrev cX5_leastSquare : ByteArray := prog_7_method_9_code
def yX5_leastSquare : MethodName := ⟨RX5, "leastSquare", "()I"⟩
abbrev cX5_greatestSquare : ByteArray := prog_7_method_10_code
def yX5_greatestSquare : MethodName := ⟨RX5, "greatestSquare", "()I"⟩
abbrev cX5_findBestSquare : ByteArray := prog_7_method_11_code
def yX5_findBestSquare : MethodName := ⟨RX5, "findBestSquare", "(LSnakeLadders$Board;II)V"⟩
abbrev cX5_findWorstLink : ByteArray := prog_7_method_12_code
def yX5_findWorstLink : MethodName := ⟨RX5, "findWorstLink", "(LSnakeLadders$Board;II)V"⟩
abbrev cX5_spreadFrom : ByteArray := prog_7_method_13_code
def yX5_spreadFrom : MethodName := ⟨RX5, "spreadFrom", "(III)V"⟩
abbrev cX5_spreadOn : ByteArray := prog_7_method_14_code
def yX5_spreadOn : MethodName := ⟨RX5, "spreadOn", "(LSnakeLadders$Outlook;III)V"⟩
abbrev cX5_addRows : ByteArray := prog_7_method_15_code
def yX5_addRows : MethodName := ⟨RX5, "addRows", "(II)V"⟩
abbrev cX5_rowsAhead : ByteArray := prog_7_method_16_code
def yX5_rowsAhead : MethodName := ⟨RX5, "rowsAhead", "(LSnakeLadders$Board;III)I"⟩
abbrev cX5_rowsAheadOn : ByteArray := prog_7_method_17_code
def yX5_rowsAheadOn : MethodName := ⟨RX5, "rowsAheadOn", "(LSnakeLadders$Outlook;IIII)I"⟩
abbrev cX5_weighPairs : ByteArray := prog_7_method_18_code
def yX5_weighPairs : MethodName := ⟨RX5, "weighPairs", "(LSnakeLadders$Board;II)V"⟩
abbrev cX5_restingPairs : ByteArray := prog_7_method_19_code
def yX5_restingPairs : MethodName := ⟨RX5, "restingPairs", "()I"⟩
abbrev cX5_restingPair : ByteArray := prog_7_method_20_code
def yX5_restingPair : MethodName := ⟨RX5, "restingPair", "(I)I"⟩
abbrev cX5_moveUnlessHome : ByteArray := prog_7_method_21_code
def yX5_moveUnlessHome : MethodName := ⟨RX5, "moveUnlessHome", "(IILSnakeLadders$Step;)V"⟩
abbrev cX5_gain : ByteArray := prog_7_method_22_code
def yX5_gain : MethodName := ⟨RX5, "gain", "(IIZ)I"⟩
abbrev cX5_rests : ByteArray := prog_7_method_23_code
def yX5_rests : MethodName := ⟨RX5, "rests", "(II)Z"⟩
abbrev cX5_pairAt : ByteArray := prog_7_method_24_code
def yX5_pairAt : MethodName := ⟨RX5, "pairAt", "(II)I"⟩
abbrev cX5_homesBySeed : ByteArray := prog_7_method_25_code
def yX5_homesBySeed : MethodName := ⟨RX5, "homesBySeed", "(LSnakeLadders$Board;II)I"⟩
def RX6 : String := "SnakeLadders$PlayerKinds"
def TX6 : u_T := fun k => match k with
  | _ => ("", "", "", false)
def tyX6 : Nat → FieldType := fun k => match k with
  | _ => .int
theorem nmX6 : ∀ a, a < 0 → ∀ b, b < 0 → a ≠ b → (TX6 a).2.1 ≠ (TX6 b).2.1 := by decide +kernel
theorem tyX6_ok : ∀ k, k < 0 → parseFieldDescriptor (TX6 k).2.2.1 = some (tyX6 k) := by decide +kernel
abbrev cX6_square : ByteArray := prog_8_method_2_code
def yX6_square : MethodName := ⟨RX6, "square", "(IIII)I"⟩
abbrev cX6_plain : ByteArray := prog_8_method_3_code
def yX6_plain : MethodName := ⟨RX6, "plain", "(III)I"⟩
abbrev cX6_timidly : ByteArray := prog_8_method_4_code
def yX6_timidly : MethodName := ⟨RX6, "timidly", "(I)I"⟩
abbrev cX6_cheated : ByteArray := prog_8_method_5_code
def yX6_cheated : MethodName := ⟨RX6, "cheated", "(I)I"⟩
def RX7 : String := "SnakeLadders$Seen"
def TX7 : u_T := fun k => match k with
  | 0 => ("SnakeLadders$Seen", "size", "I", false)
  | 1 => ("SnakeLadders$Seen", "who", "[I", true)
  | 2 => ("SnakeLadders$Seen", "before", "[I", true)
  | 3 => ("SnakeLadders$Seen", "by", "[I", true)
  | _ => ("SnakeLadders$Seen", "to", "[I", true)
def tyX7 : Nat → FieldType := fun k => match k with
  | 0 => .int
  | 1 => .array .int
  | 2 => .array .int
  | 3 => .array .int
  | _ => .array .int
theorem nmX7 : ∀ a, a < 5 → ∀ b, b < 5 → a ≠ b → (TX7 a).2.1 ≠ (TX7 b).2.1 := by decide +kernel
theorem tyX7_ok : ∀ k, k < 5 → parseFieldDescriptor (TX7 k).2.2.1 = some (tyX7 k) := by decide +kernel
abbrev cX7_init : ByteArray := prog_9_method_1_code
def yX7_init : MethodName := ⟨RX7, "<init>", "()V"⟩
abbrev cX7_add : ByteArray := prog_9_method_2_code
def yX7_add : MethodName := ⟨RX7, "add", "(IIII)I"⟩
abbrev cX7_empty : ByteArray := prog_9_method_3_code
def yX7_empty : MethodName := ⟨RX7, "empty", "()I"⟩
abbrev cX7_copy : ByteArray := prog_9_method_4_code
def yX7_copy : MethodName := ⟨RX7, "copy", "(LSnakeLadders$Seen;)V"⟩
abbrev cX7_digestOn : ByteArray := prog_9_method_5_code
def yX7_digestOn : MethodName := ⟨RX7, "digestOn", "(J)J"⟩
def RX8 : String := "SnakeLadders$Step"
def TX8 : u_T := fun k => match k with
  | 0 => ("SnakeLadders$Step", "player", "I", false)
  | 1 => ("SnakeLadders$Step", "square", "I", false)
  | 2 => ("SnakeLadders$Step", "thrown", "I", false)
  | 3 => ("SnakeLadders$Step", "link", "I", false)
  | _ => ("SnakeLadders$Step", "used", "I", false)
def tyX8 : Nat → FieldType := fun k => match k with
  | 0 => .int
  | 1 => .int
  | 2 => .int
  | 3 => .int
  | _ => .int
theorem nmX8 : ∀ a, a < 5 → ∀ b, b < 5 → a ≠ b → (TX8 a).2.1 ≠ (TX8 b).2.1 := by decide +kernel
theorem tyX8_ok : ∀ k, k < 5 → parseFieldDescriptor (TX8 k).2.2.1 = some (tyX8 k) := by decide +kernel
abbrev cX8_init : ByteArray := prog_10_method_1_code
def yX8_init : MethodName := ⟨RX8, "<init>", "()V"⟩
abbrev cX8_copy : ByteArray := prog_10_method_2_code
def yX8_copy : MethodName := ⟨RX8, "copy", "(LSnakeLadders$Step;)V"⟩
def RX9 : String := "SnakeLadders$TextReader"
def TX9 : u_T := fun k => match k with
  | 0 => ("SnakeLadders$TextReader", "length", "I", false)
  | 1 => ("SnakeLadders$TextReader", "draft", "LSnakeLadders$Board;", true)
  | 2 => ("SnakeLadders$TextReader", "bytes", "[B", true)
  | 3 => ("SnakeLadders$TextReader", "step", "LSnakeLadders$Step;", true)
  | 4 => ("SnakeLadders$TextReader", "token", "I", false)
  | 5 => ("SnakeLadders$TextReader", "tokenStart", "I", false)
  | 6 => ("SnakeLadders$TextReader", "tokenEnd", "I", false)
  | _ => ("SnakeLadders$TextReader", "number", "I", false)
def tyX9 : Nat → FieldType := fun k => match k with
  | 0 => .int
  | 1 => .object "SnakeLadders$Board"
  | 2 => .array .byte
  | 3 => .object "SnakeLadders$Step"
  | 4 => .int
  | 5 => .int
  | 6 => .int
  | _ => .int
theorem nmX9 : ∀ a, a < 8 → ∀ b, b < 8 → a ≠ b → (TX9 a).2.1 ≠ (TX9 b).2.1 := by decide +kernel
theorem tyX9_ok : ∀ k, k < 8 → parseFieldDescriptor (TX9 k).2.2.1 = some (tyX9 k) := by decide +kernel
abbrev cX9_init : ByteArray := prog_11_method_1_code
def yX9_init : MethodName := ⟨RX9, "<init>", "()V"⟩
abbrev cX9_append : ByteArray := prog_11_method_2_code
def yX9_append : MethodName := ⟨RX9, "append", "(I)I"⟩
abbrev cX9_empty : ByteArray := prog_11_method_3_code
def yX9_empty : MethodName := ⟨RX9, "empty", "()I"⟩
abbrev cX9_fault : ByteArray := prog_11_method_4_code
def yX9_fault : MethodName := ⟨RX9, "fault", "()I"⟩
abbrev cX9_readItems : ByteArray := prog_11_method_5_code
def yX9_readItems : MethodName := ⟨RX9, "readItems", "()I"⟩
abbrev cX9_boardItem : ByteArray := prog_11_method_6_code
def yX9_boardItem : MethodName := ⟨RX9, "boardItem", "()Z"⟩
abbrev cX9_laterItem : ByteArray := prog_11_method_7_code
def yX9_laterItem : MethodName := ⟨RX9, "laterItem", "()Z"⟩
abbrev cX9_linkItem : ByteArray := prog_11_method_8_code
def yX9_linkItem : MethodName := ⟨RX9, "linkItem", "()Z"⟩
abbrev cX9_playerItem : ByteArray := prog_11_method_9_code
def yX9_playerItem : MethodName := ⟨RX9, "playerItem", "()Z"⟩
abbrev cX9_setItem : ByteArray := prog_11_method_10_code
def yX9_setItem : MethodName := ⟨RX9, "setItem", "()Z"⟩
abbrev cX9_throwItem : ByteArray := prog_11_method_11_code
def yX9_throwItem : MethodName := ⟨RX9, "throwItem", "()Z"⟩
abbrev cX9_nextNumber : ByteArray := prog_11_method_12_code
def yX9_nextNumber : MethodName := ⟨RX9, "nextNumber", "(II)Z"⟩
abbrev cX9_isNumber : ByteArray := prog_11_method_13_code
def yX9_isNumber : MethodName := ⟨RX9, "isNumber", "(II)Z"⟩
abbrev cX9_nextSemicolon : ByteArray := prog_11_method_14_code
def yX9_nextSemicolon : MethodName := ⟨RX9, "nextSemicolon", "()Z"⟩
abbrev cX9_isWord : ByteArray := prog_11_method_15_code
def yX9_isWord : MethodName := ⟨RX9, "isWord", "(Ljava/lang/String;)Z"⟩
abbrev cX9_nextToken : ByteArray := prog_11_method_16_code
def yX9_nextToken : MethodName := ⟨RX9, "nextToken", "()V"⟩
abbrev cX9_valueOf : ByteArray := prog_11_method_17_code
def yX9_valueOf : MethodName := ⟨RX9, "valueOf", "(I)I"⟩
abbrev cX9_runEnd : ByteArray := prog_11_method_18_code
def yX9_runEnd : MethodName := ⟨RX9, "runEnd", "(III)I"⟩
abbrev cX9_byteAt : ByteArray := prog_11_method_19_code
def yX9_byteAt : MethodName := ⟨RX9, "byteAt", "(I)I"⟩
def RX10 : String := "SnakeLadders"
def TX10 : u_T := fun k => match k with
  | 0 => ("SnakeLadders", "game", "LSnakeLadders$Game;", true)
  | 1 => ("SnakeLadders", "images", "[LSnakeLadders$Game;", true)
  | 2 => ("SnakeLadders", "kept", "[Z", true)
  | 3 => ("SnakeLadders", "text", "LSnakeLadders$TextReader;", true)
  | 4 => ("SnakeLadders", "outlook", "LSnakeLadders$Outlook;", true)
  | 5 => ("SnakeLadders", "guess", "LSnakeLadders$Guess;", true)
  | 6 => ("SnakeLadders", "above", "J", false)
  | 7 => ("SnakeLadders", "below", "J", false)
  | 8 => ("SnakeLadders", "bads", "I", false)
  | 9 => ("SnakeLadders", "noes", "I", false)
  | _ => ("SnakeLadders", "fulls", "I", false)
def tyX10 : Nat → FieldType := fun k => match k with
  | 0 => .object "SnakeLadders$Game"
  | 1 => .array (.object "SnakeLadders$Game")
  | 2 => .array .boolean
  | 3 => .object "SnakeLadders$TextReader"
  | 4 => .object "SnakeLadders$Outlook"
  | 5 => .object "SnakeLadders$Guess"
  | 6 => .long
  | 7 => .long
  | 8 => .int
  | 9 => .int
  | _ => .int
theorem nmX10 : ∀ a, a < 11 → ∀ b, b < 11 → a ≠ b → (TX10 a).2.1 ≠ (TX10 b).2.1 := by decide +kernel
theorem tyX10_ok : ∀ k, k < 11 → parseFieldDescriptor (TX10 k).2.2.1 = some (tyX10 k) := by decide +kernel
abbrev cX10_init : ByteArray := prog_1_method_1_code
def yX10_init : MethodName := ⟨RX10, "<init>", "()V"⟩
abbrev cX10_board : ByteArray := prog_1_method_2_code
def yX10_board : MethodName := ⟨RX10, "board", "(II)I"⟩
abbrev cX10_die : ByteArray := prog_1_method_3_code
def yX10_die : MethodName := ⟨RX10, "die", "(I)I"⟩
abbrev cX10_link : ByteArray := prog_1_method_4_code
def yX10_link : MethodName := ⟨RX10, "link", "(III)I"⟩
abbrev cX10_player : ByteArray := prog_1_method_5_code
def yX10_player : MethodName := ⟨RX10, "player", "(I)I"⟩
abbrev cX10_type : ByteArray := prog_1_method_6_code
def yX10_type : MethodName := ⟨RX10, "type", "(I)I"⟩
abbrev cX10_clear : ByteArray := prog_1_method_7_code
def yX10_clear : MethodName := ⟨RX10, "clear", "()I"⟩
abbrev cX10_read : ByteArray := prog_1_method_8_code
def yX10_read : MethodName := ⟨RX10, "read", "()I"⟩
abbrev cX10_rolls : ByteArray := prog_1_method_9_code
def yX10_rolls : MethodName := ⟨RX10, "rolls", "(II)I"⟩
abbrev cX10_sets : ByteArray := prog_1_method_10_code
def yX10_sets : MethodName := ⟨RX10, "sets", "(II)I"⟩
abbrev cX10_undo : ByteArray := prog_1_method_11_code
def yX10_undo : MethodName := ⟨RX10, "undo", "()I"⟩
abbrev cX10_of : ByteArray := prog_1_method_12_code
def yX10_of : MethodName := ⟨RX10, "of", "(II)I"⟩
abbrev cX10_about : ByteArray := prog_1_method_13_code
def yX10_about : MethodName := ⟨RX10, "about", "(II)I"⟩
abbrev cX10_goes : ByteArray := prog_1_method_14_code
def yX10_goes : MethodName := ⟨RX10, "goes", "(II)I"⟩
abbrev cX10_few : ByteArray := prog_1_method_15_code
def yX10_few : MethodName := ⟨RX10, "few", "(II)I"⟩
abbrev cX10_home : ByteArray := prog_1_method_16_code
def yX10_home : MethodName := ⟨RX10, "home", "(II)I"⟩
abbrev cX10_mean : ByteArray := prog_1_method_17_code
def yX10_mean : MethodName := ⟨RX10, "mean", "(II)I"⟩
abbrev cX10_ahead : ByteArray := prog_1_method_18_code
def yX10_ahead : MethodName := ⟨RX10, "ahead", "(III)I"⟩
abbrev cX10_rather : ByteArray := prog_1_method_19_code
def yX10_rather : MethodName := ⟨RX10, "rather", "(III)I"⟩
abbrev cX10_without : ByteArray := prog_1_method_20_code
def yX10_without : MethodName := ⟨RX10, "without", "(III)I"⟩
abbrev cX10_span : ByteArray := prog_1_method_21_code
def yX10_span : MethodName := ⟨RX10, "span", "(III)I"⟩
abbrev cX10_note : ByteArray := prog_1_method_22_code
def yX10_note : MethodName := ⟨RX10, "note", "(IIII)I"⟩
abbrev cX10_mark : ByteArray := prog_1_method_23_code
def yX10_mark : MethodName := ⟨RX10, "mark", "(IIII)I"⟩
abbrev cX10_forget : ByteArray := prog_1_method_24_code
def yX10_forget : MethodName := ⟨RX10, "forget", "(I)I"⟩
abbrev cX10_is : ByteArray := prog_1_method_25_code
def yX10_is : MethodName := ⟨RX10, "is", "(I)I"⟩
abbrev cX10_look : ByteArray := prog_1_method_26_code
def yX10_look : MethodName := ⟨RX10, "look", "(I)I"⟩
abbrev cX10_kinds : ByteArray := prog_1_method_27_code
def yX10_kinds : MethodName := ⟨RX10, "kinds", "(I)I"⟩
abbrev cX10_ask : ByteArray := prog_1_method_28_code
def yX10_ask : MethodName := ⟨RX10, "ask", "(I)I"⟩
abbrev cX10_choice : ByteArray := prog_1_method_29_code
def yX10_choice : MethodName := ⟨RX10, "choice", "(III)I"⟩
abbrev cX10_evenings : ByteArray := prog_1_method_30_code
def yX10_evenings : MethodName := ⟨RX10, "evenings", "(II)I"⟩
abbrev cX10_part : ByteArray := prog_1_method_31_code
def yX10_part : MethodName := ⟨RX10, "part", "(I)J"⟩
abbrev cX10_image : ByteArray := prog_1_method_32_code
def yX10_image : MethodName := ⟨RX10, "image", "(I)I"⟩
abbrev cX10_from : ByteArray := prog_1_method_33_code
def yX10_from : MethodName := ⟨RX10, "from", "(I)I"⟩
abbrev cX10_status : ByteArray := prog_1_method_34_code
def yX10_status : MethodName := ⟨RX10, "status", "(I)I"⟩
abbrev cX10_count : ByteArray := prog_1_method_35_code
def yX10_count : MethodName := ⟨RX10, "count", "(I)I"⟩
abbrev cX10_digest : ByteArray := prog_1_method_36_code
def yX10_digest : MethodName := ⟨RX10, "digest", "()J"⟩
abbrev cX10_amount : ByteArray := prog_1_method_37_code
def yX10_amount : MethodName := ⟨RX10, "amount", "(I)I"⟩
abbrev cX10_refuse : ByteArray := prog_1_method_38_code
def yX10_refuse : MethodName := ⟨RX10, "refuse", "(I)I"⟩
abbrev cX10_refuseByTen : ByteArray := prog_1_method_39_code
def yX10_refuseByTen : MethodName := ⟨RX10, "refuseByTen", "()I"⟩
abbrev cX10_isPlayer : ByteArray := prog_1_method_40_code
def yX10_isPlayer : MethodName := ⟨RX10, "isPlayer", "(I)Z"⟩
abbrev cX10_isLink : ByteArray := prog_1_method_41_code
def yX10_isLink : MethodName := ⟨RX10, "isLink", "(I)Z"⟩
abbrev cX10_areUnlikePlayers : ByteArray := prog_1_method_42_code
def yX10_areUnlikePlayers : MethodName := ⟨RX10, "areUnlikePlayers", "(II)Z"⟩
abbrev cX10_keepFraction : ByteArray := prog_1_method_43_code
def yX10_keepFraction : MethodName := ⟨RX10, "keepFraction", "(JJ)I"⟩
abbrev cX10_within : ByteArray := prog_1_method_44_code
def yX10_within : MethodName := ⟨RX10, "within", "(III)Z"⟩
abbrev cX10_power : ByteArray := prog_1_method_45_code
def yX10_power : MethodName := ⟨RX10, "power", "(II)I"⟩
abbrev cX10_commonDivisor : ByteArray := prog_1_method_46_code
def yX10_commonDivisor : MethodName := ⟨RX10, "commonDivisor", "(JJ)J"⟩
abbrev cX10_leftOver : ByteArray := prog_1_method_47_code
def yX10_leftOver : MethodName := ⟨RX10, "leftOver", "(JI)I"⟩
def RX11 : String := "SnakeLaddersModel"
def TX11 : u_T := fun k => match k with
  | 0 => ("SnakeLaddersModel", "w", "[I", true)
  | 1 => ("SnakeLaddersModel", "isKept", "[Z", true)
  | 2 => ("SnakeLaddersModel", "text", "[I", true)
  | 3 => ("SnakeLaddersModel", "texted", "I", false)
  | 4 => ("SnakeLaddersModel", "above", "J", false)
  | 5 => ("SnakeLaddersModel", "below", "J", false)
  | 6 => ("SnakeLaddersModel", "statuses", "[I", true)
  | 7 => ("SnakeLaddersModel", "at", "I", false)
  | 8 => ("SnakeLaddersModel", "start", "I", false)
  | 9 => ("SnakeLaddersModel", "number", "I", false)
  | 10 => ("SnakeLaddersModel", "isCome", "[Z", true)
  | 11 => ("SnakeLaddersModel", "gainA", "[I", true)
  | 12 => ("SnakeLaddersModel", "gainB", "[I", true)
  | _ => ("SnakeLaddersModel", "h", "J", false)
def tyX11 : Nat → FieldType := fun k => match k with
  | 0 => .array .int
  | 1 => .array .boolean
  | 2 => .array .int
  | 3 => .int
  | 4 => .long
  | 5 => .long
  | 6 => .array .int
  | 7 => .int
  | 8 => .int
  | 9 => .int
  | 10 => .array .boolean
  | 11 => .array .int
  | 12 => .array .int
  | _ => .long
theorem nmX11 : ∀ a, a < 14 → ∀ b, b < 14 → a ≠ b → (TX11 a).2.1 ≠ (TX11 b).2.1 := by decide +kernel
theorem tyX11_ok : ∀ k, k < 14 → parseFieldDescriptor (TX11 k).2.2.1 = some (tyX11 k) := by decide +kernel
abbrev cX11_init : ByteArray := prog_13_method_1_code
def yX11_init : MethodName := ⟨RX11, "<init>", "()V"⟩
abbrev cX11_in : ByteArray := prog_13_method_3_code
def yX11_in : MethodName := ⟨RX11, "in", "(JJJ)Z"⟩
abbrev cX11_has : ByteArray := prog_13_method_4_code
def yX11_has : MethodName := ⟨RX11, "has", "(II)Z"⟩
abbrev cX11_bad : ByteArray := prog_13_method_5_code
def yX11_bad : MethodName := ⟨RX11, "bad", "(I)I"⟩
abbrev cX11_no : ByteArray := prog_13_method_6_code
def yX11_no : MethodName := ⟨RX11, "no", "()I"⟩
abbrev cX11_full : ByteArray := prog_13_method_7_code
def yX11_full : MethodName := ⟨RX11, "full", "()I"⟩
abbrev cX11_copy : ByteArray := prog_13_method_8_code
def yX11_copy : MethodName := ⟨RX11, "copy", "(II)V"⟩
abbrev cX11_empties : ByteArray := prog_13_method_9_code
def yX11_empties : MethodName := ⟨RX11, "empties", "(I)V"⟩
abbrev cX11_isPlayer : ByteArray := prog_13_method_10_code
def yX11_isPlayer : MethodName := ⟨RX11, "isPlayer", "(I)Z"⟩
abbrev cX11_isLink : ByteArray := prog_13_method_11_code
def yX11_isLink : MethodName := ⟨RX11, "isLink", "(I)Z"⟩
abbrev cX11_isSide : ByteArray := prog_13_method_12_code
def yX11_isSide : MethodName := ⟨RX11, "isSide", "(I)Z"⟩
abbrev cX11_isSquare : ByteArray := prog_13_method_13_code
def yX11_isSquare : MethodName := ⟨RX11, "isSquare", "(I)Z"⟩
abbrev cX11_plain : ByteArray := prog_13_method_14_code
def yX11_plain : MethodName := ⟨RX11, "plain", "(III)I"⟩
abbrev cX11_timid : ByteArray := prog_13_method_15_code
def yX11_timid : MethodName := ⟨RX11, "timid", "(III)I"⟩
abbrev cX11_cheat : ByteArray := prog_13_method_16_code
def yX11_cheat : MethodName := ⟨RX11, "cheat", "(III)I"⟩
abbrev cX11_goesBy : ByteArray := prog_13_method_17_code
def yX11_goesBy : MethodName := ⟨RX11, "goesBy", "(IIII)I"⟩
abbrev cX11_greased : ByteArray := prog_13_method_18_code
def yX11_greased : MethodName := ⟨RX11, "greased", "(I)I"⟩
abbrev cX11_leadsBy : ByteArray := prog_13_method_19_code
def yX11_leadsBy : MethodName := ⟨RX11, "leadsBy", "(IIIIII)I"⟩
abbrev cX11_linkFrom : ByteArray := prog_13_method_20_code
def yX11_linkFrom : MethodName := ⟨RX11, "linkFrom", "(II)I"⟩
abbrev cX11_isHome : ByteArray := prog_13_method_21_code
def yX11_isHome : MethodName := ⟨RX11, "isHome", "(II)Z"⟩
abbrev cX11_homes : ByteArray := prog_13_method_22_code
def yX11_homes : MethodName := ⟨RX11, "homes", "(I)I"⟩
abbrev cX11_throwsOne : ByteArray := prog_13_method_23_code
def yX11_throwsOne : MethodName := ⟨RX11, "throwsOne", "(III)V"⟩
abbrev cX11_addsLink : ByteArray := prog_13_method_24_code
def yX11_addsLink : MethodName := ⟨RX11, "addsLink", "(IIII)V"⟩
abbrev cX11_addsPlayer : ByteArray := prog_13_method_25_code
def yX11_addsPlayer : MethodName := ⟨RX11, "addsPlayer", "(II)V"⟩
abbrev cX11_board : ByteArray := prog_13_method_26_code
def yX11_board : MethodName := ⟨RX11, "board", "(II)I"⟩
abbrev cX11_die : ByteArray := prog_13_method_27_code
def yX11_die : MethodName := ⟨RX11, "die", "(I)I"⟩
abbrev cX11_link : ByteArray := prog_13_method_28_code
def yX11_link : MethodName := ⟨RX11, "link", "(III)I"⟩
abbrev cX11_player : ByteArray := prog_13_method_29_code
def yX11_player : MethodName := ⟨RX11, "player", "(I)I"⟩
abbrev cX11_type : ByteArray := prog_13_method_30_code
def yX11_type : MethodName := ⟨RX11, "type", "(I)I"⟩
abbrev cX11_clear : ByteArray := prog_13_method_31_code
def yX11_clear : MethodName := ⟨RX11, "clear", "()I"⟩
abbrev cX11_byteAt : ByteArray := prog_13_method_32_code
def yX11_byteAt : MethodName := ⟨RX11, "byteAt", "(I)I"⟩
abbrev cX11_blanks : ByteArray := prog_13_method_33_code
def yX11_blanks : MethodName := ⟨RX11, "blanks", "()V"⟩
abbrev cX11_takesWord : ByteArray := prog_13_method_34_code
def yX11_takesWord : MethodName := ⟨RX11, "takesWord", "()V"⟩
abbrev cX11_isWord : ByteArray := prog_13_method_35_code
def yX11_isWord : MethodName := ⟨RX11, "isWord", "(IIIIII)Z"⟩
abbrev cX11_isLetter : ByteArray := prog_13_method_36_code
def yX11_isLetter : MethodName := ⟨RX11, "isLetter", "(III)Z"⟩
abbrev cX11_wordOf : ByteArray := prog_13_method_37_code
def yX11_wordOf : MethodName := ⟨RX11, "wordOf", "()I"⟩
abbrev cX11_takesNumber : ByteArray := prog_13_method_38_code
def yX11_takesNumber : MethodName := ⟨RX11, "takesNumber", "(II)Z"⟩
abbrev cX11_takesEnd : ByteArray := prog_13_method_39_code
def yX11_takesEnd : MethodName := ⟨RX11, "takesEnd", "()Z"⟩
abbrev cX11_readsBoard : ByteArray := prog_13_method_40_code
def yX11_readsBoard : MethodName := ⟨RX11, "readsBoard", "()Z"⟩
abbrev cX11_readsLink : ByteArray := prog_13_method_41_code
def yX11_readsLink : MethodName := ⟨RX11, "readsLink", "()Z"⟩
abbrev cX11_readsPlayer : ByteArray := prog_13_method_42_code
def yX11_readsPlayer : MethodName := ⟨RX11, "readsPlayer", "()Z"⟩
abbrev cX11_readsSet : ByteArray := prog_13_method_43_code
def yX11_readsSet : MethodName := ⟨RX11, "readsSet", "()Z"⟩
abbrev cX11_readsThrows : ByteArray := prog_13_method_44_code
def yX11_readsThrows : MethodName := ⟨RX11, "readsThrows", "()Z"⟩
abbrev cX11_readsItem : ByteArray := prog_13_method_45_code
def yX11_readsItem : MethodName := ⟨RX11, "readsItem", "(Z)Z"⟩
abbrev cX11_read : ByteArray := prog_13_method_46_code
def yX11_read : MethodName := ⟨RX11, "read", "()I"⟩
abbrev cX11_minds : ByteArray := prog_13_method_47_code
def yX11_minds : MethodName := ⟨RX11, "minds", "()V"⟩
abbrev cX11_rolls : ByteArray := prog_13_method_48_code
def yX11_rolls : MethodName := ⟨RX11, "rolls", "(II)I"⟩
abbrev cX11_sets : ByteArray := prog_13_method_49_code
def yX11_sets : MethodName := ⟨RX11, "sets", "(II)I"⟩
abbrev cX11_undo : ByteArray := prog_13_method_50_code
def yX11_undo : MethodName := ⟨RX11, "undo", "()I"⟩
abbrev cX11_of : ByteArray := prog_13_method_51_code
def yX11_of : MethodName := ⟨RX11, "of", "(II)I"⟩
abbrev cX11_about : ByteArray := prog_13_method_52_code
def yX11_about : MethodName := ⟨RX11, "about", "(II)I"⟩
abbrev cX11_tries : ByteArray := prog_13_method_53_code
def yX11_tries : MethodName := ⟨RX11, "tries", "()V"⟩
abbrev cX11_rollsTried : ByteArray := prog_13_method_54_code
def yX11_rollsTried : MethodName := ⟨RX11, "rollsTried", "(II)V"⟩
abbrev cX11_rowsOf : ByteArray := prog_13_method_55_code
def yX11_rowsOf : MethodName := ⟨RX11, "rowsOf", "(I)I"⟩
abbrev cX11_plays : ByteArray := prog_13_method_56_code
def yX11_plays : MethodName := ⟨RX11, "plays", "(III)V"⟩
abbrev cX11_told : ByteArray := prog_13_method_57_code
def yX11_told : MethodName := ⟨RX11, "told", "(JJ)I"⟩
abbrev cX11_goes : ByteArray := prog_13_method_58_code
def yX11_goes : MethodName := ⟨RX11, "goes", "(II)I"⟩
abbrev cX11_few : ByteArray := prog_13_method_59_code
def yX11_few : MethodName := ⟨RX11, "few", "(II)I"⟩
abbrev cX11_home : ByteArray := prog_13_method_60_code
def yX11_home : MethodName := ⟨RX11, "home", "(II)I"⟩
abbrev cX11_mean : ByteArray := prog_13_method_61_code
def yX11_mean : MethodName := ⟨RX11, "mean", "(II)I"⟩
abbrev cX11_ahead : ByteArray := prog_13_method_62_code
def yX11_ahead : MethodName := ⟨RX11, "ahead", "(III)I"⟩
abbrev cX11_rather : ByteArray := prog_13_method_63_code
def yX11_rather : MethodName := ⟨RX11, "rather", "(III)I"⟩
abbrev cX11_without : ByteArray := prog_13_method_64_code
def yX11_without : MethodName := ⟨RX11, "without", "(III)I"⟩
abbrev cX11_span : ByteArray := prog_13_method_65_code
def yX11_span : MethodName := ⟨RX11, "span", "(III)I"⟩
abbrev cX11_keeps : ByteArray := prog_13_method_66_code
def yX11_keeps : MethodName := ⟨RX11, "keeps", "(IIIII)V"⟩
abbrev cX11_note : ByteArray := prog_13_method_67_code
def yX11_note : MethodName := ⟨RX11, "note", "(IIII)I"⟩
abbrev cX11_mark : ByteArray := prog_13_method_68_code
def yX11_mark : MethodName := ⟨RX11, "mark", "(IIII)I"⟩
abbrev cX11_forget : ByteArray := prog_13_method_69_code
def yX11_forget : MethodName := ⟨RX11, "forget", "(I)I"⟩
abbrev cX11_leads : ByteArray := prog_13_method_70_code
def yX11_leads : MethodName := ⟨RX11, "leads", "(IIII)I"⟩
abbrev cX11_isOf : ByteArray := prog_13_method_71_code
def yX11_isOf : MethodName := ⟨RX11, "isOf", "(I)I"⟩
abbrev cX11_is : ByteArray := prog_13_method_72_code
def yX11_is : MethodName := ⟨RX11, "is", "(I)I"⟩
abbrev cX11_look : ByteArray := prog_13_method_73_code
def yX11_look : MethodName := ⟨RX11, "look", "(I)I"⟩
abbrev cX11_whatOf : ByteArray := prog_13_method_74_code
def yX11_whatOf : MethodName := ⟨RX11, "whatOf", "(I)I"⟩
abbrev cX11_kinds : ByteArray := prog_13_method_75_code
def yX11_kinds : MethodName := ⟨RX11, "kinds", "(I)I"⟩
abbrev cX11_ask : ByteArray := prog_13_method_76_code
def yX11_ask : MethodName := ⟨RX11, "ask", "(I)I"⟩
abbrev cX11_gains : ByteArray := prog_13_method_77_code
def yX11_gains : MethodName := ⟨RX11, "gains", "(II)V"⟩
abbrev cX11_rests : ByteArray := prog_13_method_78_code
def yX11_rests : MethodName := ⟨RX11, "rests", "(II)Z"⟩
abbrev cX11_choice : ByteArray := prog_13_method_79_code
def yX11_choice : MethodName := ⟨RX11, "choice", "(III)I"⟩
abbrev cX11_evenings : ByteArray := prog_13_method_80_code
def yX11_evenings : MethodName := ⟨RX11, "evenings", "(II)I"⟩
abbrev cX11_part : ByteArray := prog_13_method_81_code
def yX11_part : MethodName := ⟨RX11, "part", "(I)J"⟩
abbrev cX11_image : ByteArray := prog_13_method_82_code
def yX11_image : MethodName := ⟨RX11, "image", "(I)I"⟩
abbrev cX11_from : ByteArray := prog_13_method_83_code
def yX11_from : MethodName := ⟨RX11, "from", "(I)I"⟩
abbrev cX11_status : ByteArray := prog_13_method_84_code
def yX11_status : MethodName := ⟨RX11, "status", "(I)I"⟩
abbrev cX11_sumOf : ByteArray := prog_13_method_85_code
def yX11_sumOf : MethodName := ⟨RX11, "sumOf", "(II)I"⟩
abbrev cX11_countOf : ByteArray := prog_13_method_86_code
def yX11_countOf : MethodName := ⟨RX11, "countOf", "(I)I"⟩
abbrev cX11_count : ByteArray := prog_13_method_87_code
def yX11_count : MethodName := ⟨RX11, "count", "(I)I"⟩
abbrev cX11_mix : ByteArray := prog_13_method_88_code
def yX11_mix : MethodName := ⟨RX11, "mix", "(J)V"⟩
abbrev cX11_mixes : ByteArray := prog_13_method_89_code
def yX11_mixes : MethodName := ⟨RX11, "mixes", "(II)V"⟩
abbrev cX11_digest : ByteArray := prog_13_method_90_code
def yX11_digest : MethodName := ⟨RX11, "digest", "()J"⟩
def RJ9 : String := "java/lang/Math"
def TJ9 : u_T := fun k => match k with
  | _ => ("", "", "", false)
def tyJ9 : Nat → FieldType := fun k => match k with
  | _ => .int
theorem nmJ9 : ∀ a, a < 0 → ∀ b, b < 0 → a ≠ b → (TJ9 a).2.1 ≠ (TJ9 b).2.1 := by decide +kernel
theorem tyJ9_ok : ∀ k, k < 0 → parseFieldDescriptor (TJ9 k).2.2.1 = some (tyJ9 k) := by decide +kernel
abbrev cJ9_max_7cf53 : ByteArray := prog_14_method_65_code
def yJ9_max_7cf53 : MethodName := ⟨RJ9, "max", "(II)I"⟩
abbrev cJ9_min_7cf53 : ByteArray := prog_14_method_69_code
def yJ9_min_7cf53 : MethodName := ⟨RJ9, "min", "(II)I"⟩
def RJ0 : String := "java/lang/String"
def TJ0 : u_T := fun k => match k with
  | _ => ("", "", "", false)
def tyJ0 : Nat → FieldType := fun k => match k with
  | _ => .int
theorem nmJ0 : ∀ a, a < 0 → ∀ b, b < 0 → a ≠ b → (TJ0 a).2.1 ≠ (TJ0 b).2.1 := by decide +kernel
theorem tyJ0_ok : ∀ k, k < 0 → parseFieldDescriptor (TJ0 k).2.2.1 = some (tyJ0 k) := by decide +kernel
abbrev cJ0_length_8abf5 : ByteArray := prog_15_method_54_code
def yJ0_length_8abf5 : MethodName := ⟨RJ0, "length", "()I"⟩
abbrev cJ0_charAt_5068e : ByteArray := prog_15_method_56_code
def yJ0_charAt_5068e : MethodName := ⟨RJ0, "charAt", "(I)C"⟩
abbrev cJ0_coder_7d493 : ByteArray := prog_15_method_152_code
def yJ0_coder_7d493 : MethodName := ⟨RJ0, "coder", "()B"⟩
abbrev cJ0_isLatin1_aae02 : ByteArray := prog_15_method_154_code
def yJ0_isLatin1_aae02 : MethodName := ⟨RJ0, "isLatin1", "()Z"⟩
abbrev cJ0_checkIndex_df160 : ByteArray := prog_15_method_155_code
def yJ0_checkIndex_df160 : MethodName := ⟨RJ0, "checkIndex", "(II)V"⟩
def RJ1 : String := "java/lang/StringLatin1"
def TJ1 : u_T := fun k => match k with
  | _ => ("", "", "", false)
def tyJ1 : Nat → FieldType := fun k => match k with
  | _ => .int
theorem nmJ1 : ∀ a, a < 0 → ∀ b, b < 0 → a ≠ b → (TJ1 a).2.1 ≠ (TJ1 b).2.1 := by decide +kernel
theorem tyJ1_ok : ∀ k, k < 0 → parseFieldDescriptor (TJ1 k).2.2.1 = some (tyJ1 k) := by decide +kernel
abbrev cJ1_charAt_3b067 : ByteArray := prog_16_method_2_code
def yJ1_charAt_3b067 : MethodName := ⟨RJ1, "charAt", "([BI)C"⟩
def RJ2 : String := "java/lang/StringUTF16"
def TJ2 : u_T := fun k => match k with
  | _ => ("", "", "", false)
def tyJ2 : Nat → FieldType := fun k => match k with
  | _ => .int
theorem nmJ2 : ∀ a, a < 0 → ∀ b, b < 0 → a ≠ b → (TJ2 a).2.1 ≠ (TJ2 b).2.1 := by decide +kernel
theorem tyJ2_ok : ∀ k, k < 0 → parseFieldDescriptor (TJ2 k).2.2.1 = some (tyJ2 k) := by decide +kernel
abbrev cJ2_getChar_3b067 : ByteArray := prog_17_method_5_code
def yJ2_getChar_3b067 : MethodName := ⟨RJ2, "getChar", "([BI)C"⟩
abbrev cJ2_length_9d52b : ByteArray := prog_17_method_6_code
def yJ2_length_9d52b : MethodName := ⟨RJ2, "length", "([B)I"⟩
abbrev cJ2_charAt_3b067 : ByteArray := prog_17_method_83_code
def yJ2_charAt_3b067 : MethodName := ⟨RJ2, "charAt", "([BI)C"⟩
abbrev cJ2_checkIndex_2214a : ByteArray := prog_17_method_91_code
def yJ2_checkIndex_2214a : MethodName := ⟨RJ2, "checkIndex", "(I[B)V"⟩
def RJ3 : String := "jdk/internal/util/Preconditions"
def TJ3 : u_T := fun k => match k with
  | _ => ("", "", "", false)
def tyJ3 : Nat → FieldType := fun k => match k with
  | _ => .int
theorem nmJ3 : ∀ a, a < 0 → ∀ b, b < 0 → a ≠ b → (TJ3 a).2.1 ≠ (TJ3 b).2.1 := by decide +kernel
theorem tyJ3_ok : ∀ k, k < 0 → parseFieldDescriptor (TJ3 k).2.2.1 = some (tyJ3 k) := by decide +kernel
abbrev cJ3_checkIndex_8e157 : ByteArray := prog_18_method_11_code
def yJ3_checkIndex_8e157 : MethodName := ⟨RJ3, "checkIndex", "(IILjava/util/function/BiFunction;)I"⟩
def RL : String := "SnakeLaddersLaw"
abbrev cL_law : ByteArray := code
def yL_law : MethodName := ⟨RL, "law", "([I)Z"⟩
abbrev vwCl : List vw_C := [(RX0, TX0, 11), (RX1, TX1, 4), (RX2, TX2, 1), (RX3, TX3, 2), (RX5, TX5, 8), (RX7, TX7, 5), (RX8, TX8, 5), (RX9, TX9, 8), (RX10, TX10, 11), (RX11, TX11, 14)]
end
section
/-! GX: cells by number. A cell is an array (the number of its type, its length, what it holds) or an object (the number of its class in vwCl, its fields). A reference is the number of a cell in the order in which the run makes them; .retAddr i stands for a thing from outside: 0 .. 4 the texts, 5 .. 9 their bytes, 10 the formatter, 11 the script. -/
def gx_tbl : List Cond := lw_tbl.filter goodWord
theorem gx_mem (i : Nat) {w : Cond} (h : lw_tbl[i]? = some w) (hg : goodWord w = true) : w ∈ gx_tbl := List.mem_filter.mpr ⟨List.mem_of_getElem? h, hg⟩
theorem gx_good {w : Cond} (h : w ∈ gx_tbl) : GoodIn gx_tbl (w :: gx_tbl) := by
  intro v hv
  have hv' : v ∈ gx_tbl := by
    rcases List.mem_cons.mp hv with rfl | hv
    · exact h
    · exact hv
  exact ⟨hv', good_of_word (List.mem_filter.mp hv').2⟩
abbrev gx_C : Type := (Nat × vp_A) ⊕ (Nat × List Value)
abbrev gx_H : Type := Nat × (Nat → gx_C)
/-- launch; base; addresses of the things outside, the formatter; array classes; classes; the script -/
abbrev gx_Env : Type := Launch × Nat × ((Nat → Nat) × Value) × (Nat → ClassId) × va_G × (Nat × (Nat → Int32))
abbrev gx_l (E : gx_Env) : Launch := E.1
abbrev gx_b (E : gx_Env) : Nat := E.2.1
abbrev gx_aK (E : gx_Env) : Nat → Nat := E.2.2.1.1
abbrev gx_cT (E : gx_Env) : Nat → ClassId := E.2.2.2.1
abbrev gx_D (E : gx_Env) : va_G := E.2.2.2.2.1
abbrev gx_sN (E : gx_Env) : Nat := E.2.2.2.2.2.1
abbrev gx_sX (E : gx_Env) : Nat → Int32 := E.2.2.2.2.2.2
def gx_A (E : gx_Env) : Nat → Prop := fun q => gx_b E ≤ q
def gx_junk : gx_C := .inr (1000, [])
def gx_k (E : gx_Env) (i : Nat) : Value := if i = 10 then E.2.2.1.2 else .ref (gx_aK E i)
def gx_v (E : gx_Env) : Value → Value
  | .ref k => .ref (gx_b E + k)
  | .retAddr i => gx_k E i
  | v => v
def gx_ar (b : Nat) : ((Nat → Int32) ⊕ (Nat → Int64) ⊕ (Nat → UInt32) ⊕ (Nat → UInt64) ⊕ (Nat → Option Nat)) → ((Nat → Int32) ⊕ (Nat → Int64) ⊕ (Nat → UInt32) ⊕ (Nat → UInt64) ⊕ (Nat → Option Nat))
  | .inr (.inr (.inr (.inr f))) => .inr (.inr (.inr (.inr (fun j => (f j).map (fun k => b + k)))))
  | a => a
def gx_e (E : gx_Env) : gx_C → va_E
  | .inl x => .inl (gx_cT E x.1, x.2.1, gx_ar (gx_b E) x.2.2)
  | .inr o => .inr (o.1, o.2.map (gx_v E))
def gx_tys (E : gx_Env) : List (ClassId × FieldType) := [(gx_cT E 0, .int), (gx_cT E 1, .byte), (gx_cT E 2, .boolean), (gx_cT E 3, .object RX8), (gx_cT E 4, .object RX1)]
def gx_P (E : gx_Env) (h : gx_H) (H : Heap) : Prop := H.size = gx_b E + h.1 ∧ (∀ k, k < h.1 → va_at (gx_D E) vwCl (gx_b E + k, gx_e E (h.2 k)) H) ∧ ∀ k, h.1 ≤ k → h.2 k = gx_junk
/-- the private members of nest mates -/
def gx_nest : List (String × Nat × MethodName) := [(RX10, 9, yX1_init), (RX1, 9, yX0_init), (RX1, 18, yX3_init), (RX3, 31, yX8_init), (RX1, 25, yX7_init), (RX10, 26, yX9_init), (RX9, 17, yX0_init), (RX9, 28, yX8_init), (RX10, 33, yX5_init), (RX5, 11, yX0_init), (RX10, 40, yX2_init), (RX9, 128, yX10_within), (RX5, 56, yX10_within), (RX5, 107, yX10_power), (RX5, 140, yX10_leftOver)]
def gx_txt : List (Nat × String) := [(55, "board"), (72, "link"), (77, "player"), (82, "set"), (87, "throw")]
def gx_len : List Nat := [5, 4, 6, 3, 5]
def gx_byt : List (List Int32) := [[98, 111, 97, 114, 100], [108, 105, 110, 107], [112, 108, 97, 121, 101, 114], [115, 101, 116], [116, 104, 114, 111, 119]]
/-- what comes from outside -/
def gx_out (E : gx_Env) (U : State) (H : Heap) : Prop :=
  vk_S 5 gx_len gx_byt (gx_aK E) (fun i => gx_aK E (5 + i)) (gx_A E) U H ∧ (∀ (i : Nat) (q : Nat × String), gx_txt[i]? = some q → vk_R RX9 q.1 q.2 (gx_aK E i) U) ∧
  va_Z "java/lang/String" "COMPACT_STRINGS" "Z" (.int 1) (gx_A E) U H ∧ va_Z "jdk/internal/util/Preconditions" "SIOOBE_FORMATTER" "Ljava/util/function/BiFunction;" E.2.2.1.2 (gx_A E) U H ∧ (E.2.2.1.2 = .null ∨ ∃ t, E.2.2.1.2 = .ref t) ∧
  va_X (gx_aK E 11) (gx_sN E) (gx_sX E) U H ∧ gx_aK E 11 < gx_b E
def gx_ok (E : gx_Env) (U : State) (H : Heap) : Prop := va_K (gx_D E) vwCl (gx_tys E) U ∧ (∀ q ∈ gx_nest, va_Nw (.methodLinkNest q.1 q.2.1 q.2.2 RX10) U) ∧ va_AO RX8 U ∧ va_AO RX1 U ∧ gx_out E U H
theorem gx_ok.warm {E : gx_Env} {s U : State} {H : Heap} (hW : s.WarmedH U.vm) (h : gx_ok E s H) : gx_ok E U H := by
  obtain ⟨h1, h2, h3, h4, h5, h6, h7, h8, h9, h10, h11⟩ := h
  exact ⟨h1.moved hW.alike, fun q hq => (h2 q hq).warmM hW, h3.moved hW.alike, h4.moved hW.alike, h5.moved hW.alike, fun i q hq => (h6 i q hq).warm hW, h7.moved hW.alike, h8.moved hW.alike, h9, h10.moved hW.alike, h11⟩
theorem gx_ok.same {E : gx_Env} {s U : State} {H : Heap} (hv : U.vm = s.vm) (h : gx_ok E s H) : gx_ok E U H := by
  have ha : s.vm.Alike U.vm := by rw [hv]; exact Vm.Alike.refl _
  obtain ⟨h1, h2, h3, h4, h5, h6, h7, h8, h9, h10, h11⟩ := h
  exact ⟨h1.moved ha, fun q hq => (h2 q hq).same rfl hv.symm, h3.moved ha, h4.moved ha, h5.moved ha, fun i q hq => (h6 i q hq).same hv, h7.moved ha, h8.moved ha, h9, h10.moved ha, h11⟩
theorem gx_ok.kept {E : gx_Env} {U : State} {H H1 : Heap} (hs : gx_b E ≤ H.size) (hq : ∀ a : Nat, a < H.size → ¬ gx_A E a → H1[a]? = H[a]?) (h : gx_ok E U H) : gx_ok E U H1 := by
  obtain ⟨h1, h2, h3, h4, h5, h6, h7, h8, h9, h10, h11⟩ := h
  exact ⟨h1, h2, h3, h4, h5.kept hq, h6, h7.kept hq, h8.kept hq, h9, h10.kept (hq _ (by omega) (by show ¬ gx_b E ≤ _; omega)), h11⟩
theorem gx_P.lt {E : gx_Env} {h : gx_H} {H : Heap} (hP : gx_P E h H) {k : Nat} (hk : h.2 k ≠ gx_junk) : k < h.1 := Nat.not_le.mp fun q => hk (hP.2.2 k q)
theorem gx_P.set {E : gx_Env} {h : gx_H} {H H1 : Heap} (hP : gx_P E h H) {k : Nat} {c : gx_C} (hk : k < h.1) (hz : H1.size = H.size) (ho : ∀ q, q ≠ gx_b E + k → H1[q]? = H[q]?) (ha : va_at (gx_D E) vwCl (gx_b E + k, gx_e E c) H1) : gx_P E (h.1, va_up h.2 k c) H1 := by
  refine ⟨hz.trans hP.1, fun j hj => ?_, fun j hj => ?_⟩
  · by_cases e : j = k
    · subst e
      rw [show ((h.1, va_up h.2 j c) : gx_H).2 j = c from va_up_self _ _ _]
      exact ha
    · rw [show ((h.1, va_up h.2 k c) : gx_H).2 j = h.2 j from va_up_ne _ _ e]
      exact (hP.2.1 j hj).kept (ho _ (by show gx_b E + j ≠ gx_b E + k; omega))
  · have hj' : h.1 ≤ j := hj
    rw [show ((h.1, va_up h.2 k c) : gx_H).2 j = h.2 j from va_up_ne _ _ (by omega)]
    exact hP.2.2 j hj
theorem gx_P.push {E : gx_Env} {h : gx_H} {H H1 : Heap} (hP : gx_P E h H) {c : gx_C} (hz : H1.size = H.size + 1) (ho : ∀ q, q < H.size → H1[q]? = H[q]?) (ha : va_at (gx_D E) vwCl (H.size, gx_e E c) H1) : gx_P E (h.1 + 1, va_up h.2 h.1 c) H1 := by
  have h1 := hP.1
  refine ⟨by rw [hz, h1]; rfl, fun j hj => ?_, fun j hj => ?_⟩
  · by_cases e : j = h.1
    · subst e
      rw [show ((h.1 + 1, va_up h.2 h.1 c) : gx_H).2 h.1 = c from va_up_self _ _ _, ← h1]
      exact ha
    · have hj' : j < h.1 + 1 := hj
      rw [show ((h.1 + 1, va_up h.2 h.1 c) : gx_H).2 j = h.2 j from va_up_ne _ _ e]
      exact (hP.2.1 j (by omega)).kept (ho _ (by show gx_b E + j < H.size; omega))
  · have hj' : h.1 + 1 ≤ j := hj
    rw [show ((h.1 + 1, va_up h.2 h.1 c) : gx_H).2 j = h.2 j from va_up_ne _ _ (by omega)]
    exact hP.2.2 j (by omega)
theorem gx_P.one {E : gx_Env} {h : gx_H} {H : Heap} (hP : gx_P E h H) {k : Nat} {c : gx_C} (hk : k < h.1) (hc : h.2 k = c) : va_P (gx_D E) vwCl [(gx_b E + k, gx_e E c)] H := by
  intro i q hq
  subst hc
  have hz : i < 1 := (List.getElem?_eq_some_iff.mp hq).1
  rw [show i = 0 by omega] at hq
  cases hq
  exact hP.2.1 k hk
/-! locals by their places -/
def gx_as : Nat → List (Option Value) → List (Nat × Value)
  | _, [] => []
  | i, none :: l => gx_as (i + 1) l
  | i, some v :: l => (i, v) :: gx_as (i + 1) l
theorem gx_as_iff : ∀ (l : List (Option Value)) (i j : Nat) (v : Value), (j, v) ∈ gx_as i l ↔ i ≤ j ∧ l[j - i]? = some (some v)
  | [], i, j, v => by simp [gx_as]
  | none :: l, i, j, v => by
    rw [gx_as, gx_as_iff l (i + 1) j v]
    constructor
    · rintro ⟨h1, h2⟩
      exact ⟨by omega, by rw [show j - i = (j - (i + 1)) + 1 by omega]; exact h2⟩
    · rintro ⟨h1, h2⟩
      by_cases e : j = i
      · subst e
        rw [Nat.sub_self] at h2
        cases h2
      · refine ⟨by omega, ?_⟩
        rw [show j - i = (j - (i + 1)) + 1 by omega] at h2
        exact h2
  | some w :: l, i, j, v => by
    rw [gx_as, List.mem_cons, gx_as_iff l (i + 1) j v]
    constructor
    · rintro (h | ⟨h1, h2⟩)
      · cases h
        exact ⟨Nat.le_refl _, by rw [Nat.sub_self]; rfl⟩
      · exact ⟨by omega, by rw [show j - i = (j - (i + 1)) + 1 by omega]; exact h2⟩
    · rintro ⟨h1, h2⟩
      by_cases e : j = i
      · subst e
        rw [Nat.sub_self] at h2
        cases h2
        exact Or.inl rfl
      · refine Or.inr ⟨by omega, ?_⟩
        rw [show j - i = (j - (i + 1)) + 1 by omega] at h2
        exact h2
def gx_L (E : gx_Env) (ls : Array Slot) (nL : Nat) (L : List (Option Value)) : Prop := L.length = nL ∧ lv_has ls nL ((gx_as 0 L).map (fun q => (q.1, gx_v E q.2)))
theorem gx_L.at {E : gx_Env} {ls : Array Slot} {nL : Nat} {L : List (Option Value)} (h : gx_L E ls nL L) {i : Nat} {v : Value} (hv : L[i]? = some (some v)) : ls[i]? = some (.val (gx_v E v)) :=
  h.2.2.2 (i, gx_v E v) (List.mem_map.mpr ⟨(i, v), (gx_as_iff L 0 i v).mpr ⟨Nat.zero_le _, hv⟩, rfl⟩)
def gx_kill (L : List (Option Value)) (i : Nat) : List (Option Value) := match i with
  | 0 => L
  | j + 1 => match L[j]? with
    | some (some (.long _)) => L.set j none
    | some (some (.double _)) => L.set j none
    | _ => L
def gx_set1 (L : List (Option Value)) (i : Nat) (v : Value) : List (Option Value) := (gx_kill L i).set i (some v)
def gx_set2 (L : List (Option Value)) (i : Nat) (v : Value) : List (Option Value) := ((gx_kill L i).set i (some v)).set (i + 1) none
theorem gx_kill_len (L : List (Option Value)) (i : Nat) : (gx_kill L i).length = L.length := by
  unfold gx_kill
  split
  · rfl
  · split <;> simp
/-- what is left where a place before is killed -/
theorem gx_kill_at {L : List (Option Value)} {i j : Nat} {v : Value} (h : (gx_kill L i)[j]? = some (some v)) : L[j]? = some (some v) ∧ ¬ (j + 1 = i ∧ ((∃ x, v = .long x) ∨ ∃ x, v = .double x)) := by
  unfold gx_kill at h
  split at h
  · exact ⟨h, fun q => by omega⟩
  · rename_i i
    split at h
    · rename_i x hx
      by_cases e : i = j
      · subst e
        rw [List.getElem?_set_self (List.getElem?_eq_some_iff.mp hx).1] at h
        cases h
      · rw [List.getElem?_set_ne e] at h
        exact ⟨h, fun q => e (by omega)⟩
    · rename_i x hx
      by_cases e : i = j
      · subst e
        rw [List.getElem?_set_self (List.getElem?_eq_some_iff.mp hx).1] at h
        cases h
      · rw [List.getElem?_set_ne e] at h
        exact ⟨h, fun q => e (by omega)⟩
    · rename_i hn1 hn2
      refine ⟨h, fun q => ?_⟩
      obtain ⟨q1, ⟨x, rfl⟩ | ⟨x, rfl⟩⟩ := q
      · have : j = i := by omega
        subst this
        exact hn1 x h
      · have : j = i := by omega
        subst this
        exact hn2 x h
/-- the formatter is a reference or null -/
def gx_fm (E : gx_Env) : Prop := E.2.2.1.2 = .null ∨ ∃ t, E.2.2.1.2 = .ref t
theorem gx_catv {E : gx_Env} (hE : gx_fm E) {v : Value} (h : (gx_v E v).category = 2) : (∃ x, v = .long x) ∨ ∃ x, v = .double x := by
  cases v with
  | long x => exact Or.inl ⟨x, rfl⟩
  | double x => exact Or.inr ⟨x, rfl⟩
  | retAddr i =>
    exfalso
    have h : (gx_k E i).category = 2 := h
    unfold gx_k at h
    split at h
    · rcases hE with e | ⟨t, e⟩ <;> rw [e] at h <;> simp [Value.category] at h
    · simp [Value.category] at h
  | int x => simp [gx_v, Value.category] at h
  | float x => simp [gx_v, Value.category] at h
  | null => simp [gx_v, Value.category] at h
  | ref x => simp [gx_v, Value.category] at h
theorem gx_L.set1 {E : gx_Env} (hE : gx_fm E) {ls ls' : Array Slot} {nL i : Nat} {L : List (Option Value)} {v : Value} (h : gx_L E ls nL L)
    (h' : lv_has ls' nL ((i, gx_v E v) :: ((gx_as 0 L).map (fun q => (q.1, gx_v E q.2))).filter (fun q => !(q.1 == i) && !(q.1 + 1 == i && q.2.category == 2)))) : gx_L E ls' nL (gx_set1 L i v) := by
  refine ⟨by rw [gx_set1, List.length_set, gx_kill_len]; exact h.1, h'.1, h'.2.1, fun q hq => ?_⟩
  obtain ⟨⟨j, w⟩, hj, rfl⟩ := List.mem_map.mp hq
  have hj := ((gx_as_iff _ 0 j w).mp hj).2
  rw [Nat.sub_zero] at hj
  refine h'.2.2 _ ?_
  rw [gx_set1] at hj
  by_cases e : i = j
  · subst e
    have hlt : i < (gx_kill L i).length := by
      have := (List.getElem?_eq_some_iff.mp hj).1
      rwa [List.length_set] at this
    rw [List.getElem?_set_self hlt] at hj
    cases hj
    exact List.mem_cons_self
  · rw [List.getElem?_set_ne e] at hj
    obtain ⟨h1, h2⟩ := gx_kill_at hj
    refine List.mem_cons_of_mem _ (List.mem_filter.mpr ⟨List.mem_map.mpr ⟨(j, w), (gx_as_iff L 0 j w).mpr ⟨Nat.zero_le _, h1⟩, rfl⟩, ?_⟩)
    simp only [Bool.and_eq_true, Bool.not_eq_true', beq_eq_false_iff_ne, ne_eq, Bool.and_eq_false_iff]
    refine ⟨fun q => e q.symm, ?_⟩
    by_cases e2 : j + 1 = i
    · exact Or.inr (fun q => h2 ⟨e2, gx_catv hE q⟩)
    · exact Or.inl e2
theorem gx_L.set2 {E : gx_Env} (hE : gx_fm E) {ls ls' : Array Slot} {nL i : Nat} {L : List (Option Value)} {v : Value} (h : gx_L E ls nL L)
    (h' : lv_has ls' nL ((i, gx_v E v) :: ((gx_as 0 L).map (fun q => (q.1, gx_v E q.2))).filter (fun q => !(q.1 == i) && (!(q.1 == i + 1) && !(q.1 + 1 == i && q.2.category == 2))))) : gx_L E ls' nL (gx_set2 L i v) := by
  refine ⟨by rw [gx_set2, List.length_set, List.length_set, gx_kill_len]; exact h.1, h'.1, h'.2.1, fun q hq => ?_⟩
  obtain ⟨⟨j, w⟩, hj, rfl⟩ := List.mem_map.mp hq
  have hj := ((gx_as_iff _ 0 j w).mp hj).2
  rw [Nat.sub_zero] at hj
  refine h'.2.2 _ ?_
  rw [gx_set2] at hj
  by_cases e0 : i + 1 = j
  · subst e0
    have hlt : i + 1 < ((gx_kill L i).set i (some v)).length := by
      have := (List.getElem?_eq_some_iff.mp hj).1
      rwa [List.length_set] at this
    rw [List.getElem?_set_self hlt] at hj
    cases hj
  rw [List.getElem?_set_ne e0] at hj
  by_cases e : i = j
  · subst e
    have hlt : i < (gx_kill L i).length := by
      have := (List.getElem?_eq_some_iff.mp hj).1
      rwa [List.length_set] at this
    rw [List.getElem?_set_self hlt] at hj
    cases hj
    exact List.mem_cons_self
  · rw [List.getElem?_set_ne e] at hj
    obtain ⟨h1, h2⟩ := gx_kill_at hj
    refine List.mem_cons_of_mem _ (List.mem_filter.mpr ⟨List.mem_map.mpr ⟨(j, w), (gx_as_iff L 0 j w).mpr ⟨Nat.zero_le _, h1⟩, rfl⟩, ?_⟩)
    simp only [Bool.and_eq_true, Bool.not_eq_true', beq_eq_false_iff_ne, ne_eq, Bool.and_eq_false_iff]
    refine ⟨fun q => e q.symm, fun q => e0 q.symm, ?_⟩
    by_cases e2 : j + 1 = i
    · exact Or.inr (fun q => h2 ⟨e2, gx_catv hE q⟩)
    · exact Or.inl e2
/-! the locals with which a method begins -/
def gx_sl : List Value → List (Option Value)
  | [] => []
  | .long x :: l => some (.long x) :: none :: gx_sl l
  | .double x :: l => some (.double x) :: none :: gx_sl l
  | v :: l => some v :: gx_sl l
def gx_L0 (nL : Nat) (As : List Value) : List (Option Value) := gx_sl As ++ List.replicate (nL - (gx_sl As).length) none
theorem gx_as_rep (n : Nat) : ∀ i, gx_as i (List.replicate n none) = [] := by
  induction n with
  | zero => intro i; rfl
  | succ n ih => intro i; exact ih (i + 1)
theorem gx_as_app : ∀ (a b : List (Option Value)) (i : Nat), gx_as i (a ++ b) = gx_as i a ++ gx_as (i + a.length) b
  | [], b, i => by simp [gx_as]
  | none :: a, b, i => by
    show gx_as (i + 1) (a ++ b) = gx_as (i + 1) a ++ _
    rw [gx_as_app a b (i + 1), List.length_cons, show i + (a.length + 1) = i + 1 + a.length by omega]
  | some v :: a, b, i => by
    show (i, v) :: gx_as (i + 1) (a ++ b) = ((i, v) :: gx_as (i + 1) a) ++ _
    rw [gx_as_app a b (i + 1), List.length_cons, show i + (a.length + 1) = i + 1 + a.length by omega]
    rfl
theorem gx_cat1 {E : gx_Env} (hE : gx_fm E) {v : Value} (h1 : ∀ x, v ≠ .long x) (h2 : ∀ x, v ≠ .double x) : (gx_v E v).category ≠ 2 := fun q => (gx_catv hE q).elim (fun ⟨x, e⟩ => h1 x e) (fun ⟨x, e⟩ => h2 x e)
theorem gx_sl_as {E : gx_Env} (hE : gx_fm E) : ∀ (As : List Value) (i : Nat), (gx_as i (gx_sl As)).map (fun q => (q.1, gx_v E q.2)) = lv_args i (As.map (gx_v E))
  | [], i => rfl
  | v :: l, i => by
    cases v with
    | long x =>
      show (i, Value.long x) :: (gx_as (i + 1 + 1) (gx_sl l)).map _ = (i, Value.long x) :: lv_args (i + 2) _
      rw [gx_sl_as hE l (i + 1 + 1)]
    | double x =>
      show (i, Value.double x) :: (gx_as (i + 1 + 1) (gx_sl l)).map _ = (i, Value.double x) :: lv_args (i + 2) _
      rw [gx_sl_as hE l (i + 1 + 1)]
    | retAddr k =>
      show (i, gx_k E k) :: (gx_as (i + 1) (gx_sl l)).map _ = (i, gx_k E k) :: lv_args (if (gx_k E k).category = 2 then i + 2 else i + 1) _
      rw [if_neg (show ¬ (gx_k E k).category = 2 from gx_cat1 (v := .retAddr k) hE (fun x q => by cases q) (fun x q => by cases q)), gx_sl_as hE l (i + 1)]
    | int x =>
      show (i, Value.int x) :: (gx_as (i + 1) (gx_sl l)).map _ = (i, Value.int x) :: lv_args (i + 1) _
      rw [gx_sl_as hE l (i + 1)]
    | float x =>
      show (i, Value.float x) :: (gx_as (i + 1) (gx_sl l)).map _ = (i, Value.float x) :: lv_args (i + 1) _
      rw [gx_sl_as hE l (i + 1)]
    | null =>
      show (i, Value.null) :: (gx_as (i + 1) (gx_sl l)).map _ = (i, Value.null) :: lv_args (i + 1) _
      rw [gx_sl_as hE l (i + 1)]
    | ref x =>
      show (i, Value.ref (gx_b E + x)) :: (gx_as (i + 1) (gx_sl l)).map _ = (i, Value.ref (gx_b E + x)) :: lv_args (i + 1) _
      rw [gx_sl_as hE l (i + 1)]
theorem gx_sl_len {E : gx_Env} (hE : gx_fm E) : ∀ (As : List Value), (gx_sl As).length = (lg_sl (As.map (gx_v E))).length
  | [] => rfl
  | v :: l => by
    have ih := gx_sl_len hE l
    have e : ∀ w : Value, lg_sl ((v :: l).map (gx_v E)) = lg_sl [gx_v E v] ++ lg_sl (l.map (gx_v E)) := fun w => by simp [lg_sl]
    rw [e v, List.length_append, ← ih]
    cases v with
    | long x => simp [gx_sl, lg_sl, gx_v, Value.category]; omega
    | double x => simp [gx_sl, lg_sl, gx_v, Value.category]; omega
    | retAddr k =>
      have hk : ¬ (gx_v E (.retAddr k)).category = 2 := gx_cat1 hE (fun x q => by cases q) (fun x q => by cases q)
      simp [gx_sl, lg_sl, hk]; omega
    | int x => simp [gx_sl, lg_sl, gx_v, Value.category]; omega
    | float x => simp [gx_sl, lg_sl, gx_v, Value.category]; omega
    | null => simp [gx_sl, lg_sl, gx_v, Value.category]; omega
    | ref x => simp [gx_sl, lg_sl, gx_v, Value.category]; omega
theorem gx_entry {E : gx_Env} (hE : gx_fm E) (As : List Value) {nL : Nat} (h : (gx_sl As).length ≤ nL) : gx_L E ((lg_sl (As.map (gx_v E)) ++ List.replicate (nL - (lg_sl (As.map (gx_v E))).length) Slot.unset).toArray) nL (gx_L0 nL As) := by
  refine ⟨by simp [gx_L0]; omega, ?_⟩
  rw [gx_L0, gx_as_app, gx_as_rep, List.append_nil, gx_sl_as hE]
  exact lv_entry _ (by rw [← gx_sl_len hE]; exact h)
end
section
/-! what a frame stands on, what a method's end gives, and the judgement gx_G: from here, with these locals, this stack, these cells, the machine does what o says -/
def gx_F (E : gx_Env) (own : String) (cc : ByteArray) (nL : Nat) (d : Nat) (ini : Bool) (p : Program) (R : Room) (s : State) (m : MethodId) (args : Array Value) (meth : Method) (c : Code) : Prop :=
  p.tables.exec = Jvm.exec ∧ c.code = cc ∧ c.maxLocals = nL ∧ s.vm.findClass own = some m.cls ∧ (∀ w ∈ gx_tbl, w.before args s = true) ∧ gx_ok E s s.heap ∧ (d ≤ R.frames ∧ 64 * d ≤ R.locals) ∧ (ini = true → meth.name = "<init>") ∧ gx_b E ≤ s.heap.size
def gx_isret (cc : ByteArray) (rt : Option FieldType) (pc : Nat) : Option Value → Prop
  | some (.int x) => decode cc pc = .ok (.ireturn, 1) ∧ ∃ ty, rt = some ty ∧ narrow ty (.int x) = .int x
  | some (.long _) => decode cc pc = .ok (.lreturn, 1) ∧ rt = some .long
  | some (.ref _) => decode cc pc = .ok (.areturn, 1) ∧ ∃ ty, rt = some ty ∧ ((∃ n, ty = .object n) ∨ ∃ t, ty = .array t)
  | none => decode cc pc = .ok (.return_, 1) ∧ rt = none
  | _ => False
def gx_R (E : gx_Env) (cc : ByteArray) (rt : Option FieldType) (p : Program) (e : Env) (R : Room) (s : State) (m : MethodId) (args : Array Value) (below : List Frame) (meth : Method) (c : Code) (Q : State → Prop) (v : Option Value) (h' : gx_H) : Prop :=
  ∀ (H : Heap) (locs : List Loc) (cells slots pc : Nat) (ls : Array Slot), gx_P E h' H → va_S (gx_A E) s.heap H locs → cells ≤ R.cells → slots ≤ R.slots → gx_isret cc rt pc v → W p (gx_l E) e R s m args below meth c H locs cells slots Q (F0 m pc ls (v.toList.map (gx_v E)))
def gx_G (E : gx_Env) (own : String) (cc : ByteArray) (nL : Nat) (rt : Option FieldType) (ini : Bool) (d bc bs pc : Nat) (L : List (Option Value)) (st : List Value) (h : gx_H) {ρ : Type} (em : ρ → Option Value) (o : Option (ρ × gx_H)) : Prop :=
  ∀ (r : ρ) (h' : gx_H), o = some (r, h') → ∀ (p : Program) (e : Env) (R : Room) (s : State) (m : MethodId) (args : Array Value) (below : List Frame) (meth : Method) (c : Code) (Q : State → Prop),
    gx_F E own cc nL d ini p R s m args meth c → gx_R E cc rt p e R s m args below meth c Q (em r) h' →
    ∀ (H : Heap) (locs : List Loc) (cells slots : Nat) (ls : Array Slot), gx_P E h H → va_S (gx_A E) s.heap H locs → cells + bc ≤ R.cells → slots + bs ≤ R.slots → gx_L E ls nL L →
      W p (gx_l E) e R s m args below meth c H locs cells slots Q (F0 m pc ls (st.map (gx_v E)))
theorem gx_F.fm {E : gx_Env} {own : String} {cc : ByteArray} {nL : Nat} {d : Nat} {ini : Bool} {p : Program} {R : Room} {s : State} {m : MethodId} {args : Array Value} {meth : Method} {c : Code} (F : gx_F E own cc nL d ini p R s m args meth c) : gx_fm E := F.2.2.2.2.2.1.2.2.2.2.2.2.2.2.1
section GXR
variable {E : gx_Env} {own : String} {cc : ByteArray} {nL : Nat} {rt : Option FieldType} {ini : Bool} {d bc bs pc : Nat} {L : List (Option Value)} {st : List Value} {h : gx_H} {ρ : Type} {em : ρ → Option Value} {o : Option (ρ × gx_H)}
/-- a step that touches neither locals nor cells -/
theorem gx_pure {pc' : Nat} {st' : List Value} (hs : ∀ {p : Program} {e : Env} {R : Room} {s : State} {m : MethodId} {args : Array Value} {below : List Frame} {meth : Method} {c : Code} {Q : State → Prop} {H : Heap} {locs : List Loc} {cells slots : Nat} {ls : Array Slot}, gx_F E own cc nL d ini p R s m args meth c → gx_L E ls nL L →
      W p (gx_l E) e R s m args below meth c H locs cells slots Q (F0 m pc' ls (st'.map (gx_v E))) → W p (gx_l E) e R s m args below meth c H locs cells slots Q (F0 m pc ls (st.map (gx_v E))))
    (k : gx_G E own cc nL rt ini d bc bs pc' L st' h em o) : gx_G E own cc nL rt ini d bc bs pc L st h em o := by
  intro r h' ho p e R s m args below meth c Q F hR H locs cells slots ls hP hS hc hs' hL
  exact hs F hL (k r h' ho p e R s m args below meth c Q F hR H locs cells slots ls hP hS hc hs' hL)
theorem gx_iconst {n : Int} (v : Int32) (hd : decode cc pc = .ok (.iconst n, 1)) (hv : Int32.ofInt n = v) (k : gx_G E own cc nL rt ini d bc bs (pc + 1) L (.int v :: st) h em o) : gx_G E own cc nL rt ini d bc bs pc L st h em o := gx_pure (fun F _ k => lv_iconst F.1 F.2.1 hd hv k) k
theorem gx_bipush {n : Int} (v : Int32) (hd : decode cc pc = .ok (.bipush n, 2)) (hv : (Int8.ofInt n).toInt32 = v) (k : gx_G E own cc nL rt ini d bc bs (pc + 2) L (.int v :: st) h em o) : gx_G E own cc nL rt ini d bc bs pc L st h em o := gx_pure (fun F _ k => lv_bipush F.1 F.2.1 hd hv k) k
theorem gx_sipush {n : Int} (v : Int32) (hd : decode cc pc = .ok (.sipush n, 3)) (hv : (Int16.ofInt n).toInt32 = v) (k : gx_G E own cc nL rt ini d bc bs (pc + 3) L (.int v :: st) h em o) : gx_G E own cc nL rt ini d bc bs pc L st h em o := gx_pure (fun F _ k => lv_sipush F.1 F.2.1 hd hv k) k
theorem gx_lconst {n : Fin 2} (v : Int64) (hd : decode cc pc = .ok (.lconst n, 1)) (hv : Int64.ofNat (n : Nat) = v) (k : gx_G E own cc nL rt ini d bc bs (pc + 1) L (.long v :: st) h em o) : gx_G E own cc nL rt ini d bc bs pc L st h em o := gx_pure (fun F _ k => lv_lconst F.1 F.2.1 hd hv k) k
theorem gx_ldc {index : Nat} {v : Int32} (hw : Cond.constant own index v ∈ gx_tbl) (hd : decode cc pc = .ok (.ldc index, 2)) (k : gx_G E own cc nL rt ini d bc bs (pc + 2) L (.int v :: st) h em o) : gx_G E own cc nL rt ini d bc bs pc L st h em o := gx_pure (fun F _ k => lv_ldc F.1 F.2.1 F.2.2.2.1 (F.2.2.2.2.1 _ hw) hd k) k
theorem gx_ldcw {index : Nat} {v : Int32} (hw : Cond.constant own index v ∈ gx_tbl) (hd : decode cc pc = .ok (.ldc_w index, 3)) (k : gx_G E own cc nL rt ini d bc bs (pc + 3) L (.int v :: st) h em o) : gx_G E own cc nL rt ini d bc bs pc L st h em o := gx_pure (fun F _ k => lv_ldcw F.1 F.2.1 F.2.2.2.1 (F.2.2.2.2.1 _ hw) hd k) k
theorem gx_ldc2 {index : Nat} {v : Int64} (hw : Cond.constantLong own index v ∈ gx_tbl) (hd : decode cc pc = .ok (.ldc2_w index, 3)) (k : gx_G E own cc nL rt ini d bc bs (pc + 3) L (.long v :: st) h em o) : gx_G E own cc nL rt ini d bc bs pc L st h em o := gx_pure (fun F _ k => lv_ldc2 F.1 F.2.1 F.2.2.2.1 (F.2.2.2.2.1 _ hw) hd k) k
theorem gx_iload_n {n : Fin 4} (i : Nat) {x : Int32} (hd : decode cc pc = .ok (.iload_n n, 1)) (hi : (n : Nat) = i) (hl : L[i]? = some (some (.int x))) (k : gx_G E own cc nL rt ini d bc bs (pc + 1) L (.int x :: st) h em o) : gx_G E own cc nL rt ini d bc bs pc L st h em o := gx_pure (fun F hL k => lv_iload_n F.1 F.2.1 hd hi (hL.at hl) k) k
theorem gx_iload {i : Nat} {x : Int32} (hd : decode cc pc = .ok (.iload i, 2)) (hl : L[i]? = some (some (.int x))) (k : gx_G E own cc nL rt ini d bc bs (pc + 2) L (.int x :: st) h em o) : gx_G E own cc nL rt ini d bc bs pc L st h em o := gx_pure (fun F hL k => lv_iload F.1 F.2.1 hd (hL.at hl) k) k
theorem gx_lload_n {n : Fin 4} (i : Nat) {x : Int64} (hd : decode cc pc = .ok (.lload_n n, 1)) (hi : (n : Nat) = i) (hl : L[i]? = some (some (.long x))) (k : gx_G E own cc nL rt ini d bc bs (pc + 1) L (.long x :: st) h em o) : gx_G E own cc nL rt ini d bc bs pc L st h em o := gx_pure (fun F hL k => lv_lload_n F.1 F.2.1 hd hi (hL.at hl) k) k
theorem gx_lload {i : Nat} {x : Int64} (hd : decode cc pc = .ok (.lload i, 2)) (hl : L[i]? = some (some (.long x))) (k : gx_G E own cc nL rt ini d bc bs (pc + 2) L (.long x :: st) h em o) : gx_G E own cc nL rt ini d bc bs pc L st h em o := gx_pure (fun F hL k => lv_lload F.1 F.2.1 hd (hL.at hl) k) k
theorem gx_aload_n {n : Fin 4} (i : Nat) {x : Nat} (hd : decode cc pc = .ok (.aload_n n, 1)) (hi : (n : Nat) = i) (hl : L[i]? = some (some (.ref x))) (k : gx_G E own cc nL rt ini d bc bs (pc + 1) L (.ref x :: st) h em o) : gx_G E own cc nL rt ini d bc bs pc L st h em o := gx_pure (fun F hL k => lv_aload_n F.1 F.2.1 hd hi (hL.at hl) k) k
theorem gx_aload {i : Nat} {x : Nat} (hd : decode cc pc = .ok (.aload i, 2)) (hl : L[i]? = some (some (.ref x))) (k : gx_G E own cc nL rt ini d bc bs (pc + 2) L (.ref x :: st) h em o) : gx_G E own cc nL rt ini d bc bs pc L st h em o := gx_pure (fun F hL k => lv_aload F.1 F.2.1 hd (hL.at hl) k) k
/-- a thing from outside (but the formatter) -/
theorem gx_kref {i : Nat} (hi : i ≠ 10) : gx_v E (.retAddr i) = .ref (gx_aK E i) := if_neg hi
theorem gx_kload_n {n : Fin 4} (i : Nat) {x : Nat} (hd : decode cc pc = .ok (.aload_n n, 1)) (hi : (n : Nat) = i) (hl : L[i]? = some (some (.retAddr x))) (k : gx_G E own cc nL rt ini d bc bs (pc + 1) L (.retAddr x :: st) h em o) : gx_G E own cc nL rt ini d bc bs pc L st h em o := by
  refine gx_pure (fun F hL k => ?_) k
  have h1 := hL.at hl
  rw [List.map_cons] at k
  have hc : gx_v E (.retAddr x) = .null ∨ ∃ t, gx_v E (.retAddr x) = .ref t := by
    show gx_k E x = .null ∨ ∃ t, gx_k E x = .ref t
    unfold gx_k
    split
    · exact F.fm
    · exact Or.inr ⟨_, rfl⟩
  rcases hc with hc | ⟨t, hc⟩
  · rw [hc] at h1 k
    exact lv_aload_nN F.1 F.2.1 hd hi h1 k
  · rw [hc] at h1 k
    exact lv_aload_n F.1 F.2.1 hd hi h1 k
theorem gx_iadd {x y : Int32} (hd : decode cc pc = .ok (.iadd, 1)) (k : gx_G E own cc nL rt ini d bc bs (pc + 1) L (.int (x + y) :: st) h em o) : gx_G E own cc nL rt ini d bc bs pc L (.int y :: .int x :: st) h em o := gx_pure (fun F _ k => lv_iadd F.1 F.2.1 hd k) k
theorem gx_isub {x y : Int32} (hd : decode cc pc = .ok (.isub, 1)) (k : gx_G E own cc nL rt ini d bc bs (pc + 1) L (.int (x - y) :: st) h em o) : gx_G E own cc nL rt ini d bc bs pc L (.int y :: .int x :: st) h em o := gx_pure (fun F _ k => lv_isub F.1 F.2.1 hd k) k
theorem gx_imul {x y : Int32} (hd : decode cc pc = .ok (.imul, 1)) (k : gx_G E own cc nL rt ini d bc bs (pc + 1) L (.int (x * y) :: st) h em o) : gx_G E own cc nL rt ini d bc bs pc L (.int y :: .int x :: st) h em o := gx_pure (fun F _ k => lv_imul F.1 F.2.1 hd k) k
theorem gx_iand {x y : Int32} (hd : decode cc pc = .ok (.iand, 1)) (k : gx_G E own cc nL rt ini d bc bs (pc + 1) L (.int (x &&& y) :: st) h em o) : gx_G E own cc nL rt ini d bc bs pc L (.int y :: .int x :: st) h em o := gx_pure (fun F _ k => lv_iand F.1 F.2.1 hd k) k
theorem gx_ior {x y : Int32} (hd : decode cc pc = .ok (.ior, 1)) (k : gx_G E own cc nL rt ini d bc bs (pc + 1) L (.int (x ||| y) :: st) h em o) : gx_G E own cc nL rt ini d bc bs pc L (.int y :: .int x :: st) h em o := gx_pure (fun F _ k => lv_ior F.1 F.2.1 hd k) k
theorem gx_ixor {x y : Int32} (hd : decode cc pc = .ok (.ixor, 1)) (k : gx_G E own cc nL rt ini d bc bs (pc + 1) L (.int (x ^^^ y) :: st) h em o) : gx_G E own cc nL rt ini d bc bs pc L (.int y :: .int x :: st) h em o := gx_pure (fun F _ k => lv_ixor F.1 F.2.1 hd k) k
theorem gx_ishl {x y : Int32} (hd : decode cc pc = .ok (.ishl, 1)) (k : gx_G E own cc nL rt ini d bc bs (pc + 1) L (.int (x <<< (y &&& 31)) :: st) h em o) : gx_G E own cc nL rt ini d bc bs pc L (.int y :: .int x :: st) h em o := gx_pure (fun F _ k => lv_ishl F.1 F.2.1 hd k) k
theorem gx_ishr {x y : Int32} (hd : decode cc pc = .ok (.ishr, 1)) (k : gx_G E own cc nL rt ini d bc bs (pc + 1) L (.int (x >>> (y &&& 31)) :: st) h em o) : gx_G E own cc nL rt ini d bc bs pc L (.int y :: .int x :: st) h em o := gx_pure (fun F _ k => lv_ishr F.1 F.2.1 hd k) k
theorem gx_ladd {x y : Int64} (hd : decode cc pc = .ok (.ladd, 1)) (k : gx_G E own cc nL rt ini d bc bs (pc + 1) L (.long (x + y) :: st) h em o) : gx_G E own cc nL rt ini d bc bs pc L (.long y :: .long x :: st) h em o := gx_pure (fun F _ k => lv_ladd F.1 F.2.1 hd k) k
theorem gx_lsub {x y : Int64} (hd : decode cc pc = .ok (.lsub, 1)) (k : gx_G E own cc nL rt ini d bc bs (pc + 1) L (.long (x - y) :: st) h em o) : gx_G E own cc nL rt ini d bc bs pc L (.long y :: .long x :: st) h em o := gx_pure (fun F _ k => lv_lsub F.1 F.2.1 hd k) k
theorem gx_lmul {x y : Int64} (hd : decode cc pc = .ok (.lmul, 1)) (k : gx_G E own cc nL rt ini d bc bs (pc + 1) L (.long (x * y) :: st) h em o) : gx_G E own cc nL rt ini d bc bs pc L (.long y :: .long x :: st) h em o := gx_pure (fun F _ k => lv_lmul F.1 F.2.1 hd k) k
theorem gx_lcmp {x y : Int64} (hd : decode cc pc = .ok (.lcmp, 1)) (k : gx_G E own cc nL rt ini d bc bs (pc + 1) L (.int (lg_cmp x y) :: st) h em o) : gx_G E own cc nL rt ini d bc bs pc L (.long y :: .long x :: st) h em o := gx_pure (fun F _ k => W.lcmp F.1 F.2.1 hd k) k
theorem gx_i2l {x : Int32} (hd : decode cc pc = .ok (.i2l, 1)) (k : gx_G E own cc nL rt ini d bc bs (pc + 1) L (.long x.toInt64 :: st) h em o) : gx_G E own cc nL rt ini d bc bs pc L (.int x :: st) h em o := gx_pure (fun F _ k => lv_i2l F.1 F.2.1 hd rfl k) k
theorem gx_l2i {x : Int64} (hd : decode cc pc = .ok (.l2i, 1)) (k : gx_G E own cc nL rt ini d bc bs (pc + 1) L (.int x.toInt32 :: st) h em o) : gx_G E own cc nL rt ini d bc bs pc L (.long x :: st) h em o := gx_pure (fun F _ k => lv_l2i F.1 F.2.1 hd rfl k) k
theorem gx_i2b {x : Int32} (hd : decode cc pc = .ok (.i2b, 1)) (k : gx_G E own cc nL rt ini d bc bs (pc + 1) L (.int x.toInt8.toInt32 :: st) h em o) : gx_G E own cc nL rt ini d bc bs pc L (.int x :: st) h em o := gx_pure (fun F _ k => lv_i2b F.1 F.2.1 hd rfl k) k
theorem gx_i2c {x : Int32} (hd : decode cc pc = .ok (.i2c, 1)) (k : gx_G E own cc nL rt ini d bc bs (pc + 1) L (.int (x.toUInt32 % 65536).toInt32 :: st) h em o) : gx_G E own cc nL rt ini d bc bs pc L (.int x :: st) h em o := gx_pure (fun F _ k => lv_i2c F.1 F.2.1 hd rfl k) k
/-- division: where the divisor is 0 nothing is said -/
def gx_dI (x y : Int32) : Option Int32 := if y = 0 then none else some (x / y)
def gx_rI (x y : Int32) : Option Int32 := if y = 0 then none else some (x - x / y * y)
def gx_dJ (x y : Int64) : Option Int64 := if y = 0 then none else some (x / y)
def gx_rJ (x y : Int64) : Option Int64 := if y = 0 then none else some (x - x / y * y)
theorem gx_bind {α : Type} {a : Option α} {f : α → Option (ρ × gx_H)} (k : ∀ x, a = some x → gx_G E own cc nL rt ini d bc bs pc L st h em (f x)) : gx_G E own cc nL rt ini d bc bs pc L st h em (a.bind f) := by
  intro r h' ho
  obtain ⟨x, hx, hf⟩ := Option.bind_eq_some_iff.mp ho
  exact k x hx r h' hf
theorem gx_idiv {x y : Int32} {f : Int32 → Option (ρ × gx_H)} (hd : decode cc pc = .ok (.idiv, 1)) (k : ∀ z, gx_G E own cc nL rt ini d bc bs (pc + 1) L (.int z :: st) h em (f z)) : gx_G E own cc nL rt ini d bc bs pc L (.int y :: .int x :: st) h em ((gx_dI x y).bind f) := by
  refine gx_bind fun z hz => ?_
  unfold gx_dI at hz
  split at hz
  · cases hz
  · rename_i hne
    cases hz
    exact gx_pure (fun F _ k => lv_idiv F.1 F.2.1 hd hne k) (k _)
theorem gx_irem {x y : Int32} {f : Int32 → Option (ρ × gx_H)} (hd : decode cc pc = .ok (.irem, 1)) (k : ∀ z, gx_G E own cc nL rt ini d bc bs (pc + 1) L (.int z :: st) h em (f z)) : gx_G E own cc nL rt ini d bc bs pc L (.int y :: .int x :: st) h em ((gx_rI x y).bind f) := by
  refine gx_bind fun z hz => ?_
  unfold gx_rI at hz
  split at hz
  · cases hz
  · rename_i hne
    cases hz
    exact gx_pure (fun F _ k => lv_irem F.1 F.2.1 hd hne k) (k _)
theorem gx_ldiv {x y : Int64} {f : Int64 → Option (ρ × gx_H)} (hd : decode cc pc = .ok (.ldiv, 1)) (k : ∀ z, gx_G E own cc nL rt ini d bc bs (pc + 1) L (.long z :: st) h em (f z)) : gx_G E own cc nL rt ini d bc bs pc L (.long y :: .long x :: st) h em ((gx_dJ x y).bind f) := by
  refine gx_bind fun z hz => ?_
  unfold gx_dJ at hz
  split at hz
  · cases hz
  · rename_i hne
    cases hz
    exact gx_pure (fun F _ k => lv_ldiv F.1 F.2.1 hd hne k) (k _)
theorem gx_lrem {x y : Int64} {f : Int64 → Option (ρ × gx_H)} (hd : decode cc pc = .ok (.lrem, 1)) (k : ∀ z, gx_G E own cc nL rt ini d bc bs (pc + 1) L (.long z :: st) h em (f z)) : gx_G E own cc nL rt ini d bc bs pc L (.long y :: .long x :: st) h em ((gx_rJ x y).bind f) := by
  refine gx_bind fun z hz => ?_
  unfold gx_rJ at hz
  split at hz
  · cases hz
  · rename_i hne
    cases hz
    exact gx_pure (fun F _ k => lv_lrem F.1 F.2.1 hd hne k) (k _)
theorem gx_c1 (hE : gx_fm E) {v : Value} (hv : v.category = 1) : (gx_v E v).category = 1 := by
  rcases lv_cat (gx_v E v) with q | q
  · exact q
  · rcases gx_catv hE q with ⟨x, rfl⟩ | ⟨x, rfl⟩ <;> simp [Value.category] at hv
theorem gx_dup {v : Value} (hd : decode cc pc = .ok (.dup, 1)) (hv : v.category = 1) (k : gx_G E own cc nL rt ini d bc bs (pc + 1) L (v :: v :: st) h em o) : gx_G E own cc nL rt ini d bc bs pc L (v :: st) h em o := gx_pure (fun F _ k => lv_dup F.1 F.2.1 hd (gx_c1 F.fm hv) k) k
theorem gx_pop {v : Value} (hd : decode cc pc = .ok (.pop, 1)) (hv : v.category = 1) (k : gx_G E own cc nL rt ini d bc bs (pc + 1) L st h em o) : gx_G E own cc nL rt ini d bc bs pc L (v :: st) h em o := gx_pure (fun F _ k => lv_pop F.1 F.2.1 hd (gx_c1 F.fm hv) k) k
theorem gx_dup_x1 {v w : Value} (hd : decode cc pc = .ok (.dup_x1, 1)) (hv : v.category = 1) (hw : w.category = 1) (k : gx_G E own cc nL rt ini d bc bs (pc + 1) L (v :: w :: v :: st) h em o) : gx_G E own cc nL rt ini d bc bs pc L (v :: w :: st) h em o := gx_pure (fun F _ k => lv_dup_x1 F.1 F.2.1 hd (gx_c1 F.fm hv) (gx_c1 F.fm hw) k) k
theorem gx_dup2 {v w : Value} (hd : decode cc pc = .ok (.dup2, 1)) (hv : v.category = 1) (hw : w.category = 1) (k : gx_G E own cc nL rt ini d bc bs (pc + 1) L (v :: w :: v :: w :: st) h em o) : gx_G E own cc nL rt ini d bc bs pc L (v :: w :: st) h em o := gx_pure (fun F _ k => lv_dup2_11 F.1 F.2.1 hd (gx_c1 F.fm hv) (gx_c1 F.fm hw) k) k
theorem gx_goto {off : Int} (tgt : Nat) (hd : decode cc pc = .ok (.goto off, 3)) (ht : (pc : Int) + off = (tgt : Int)) (k : gx_G E own cc nL rt ini d bc bs tgt L st h em o) : gx_G E own cc nL rt ini d bc bs pc L st h em o := gx_pure (fun F _ k => lv_goto F.1 F.2.1 hd ht k) k
theorem gx_ite {c : Prop} [Decidable c] {o1 o2 : Option (ρ × gx_H)} (k1 : c → gx_G E own cc nL rt ini d bc bs pc L st h em o1) (k2 : ¬ c → gx_G E own cc nL rt ini d bc bs pc L st h em o2) : gx_G E own cc nL rt ini d bc bs pc L st h em (if c then o1 else o2) := by
  by_cases hc : c
  · rw [if_pos hc]; exact k1 hc
  · rw [if_neg hc]; exact k2 hc
end GXR
end
section
section GXS
variable {E : gx_Env} {own : String} {cc : ByteArray} {nL : Nat} {rt : Option FieldType} {ini : Bool} {d bc bs pc : Nat} {L : List (Option Value)} {st : List Value} {h : gx_H} {ρ : Type} {em : ρ → Option Value} {o o1 o2 : Option (ρ × gx_H)}
theorem gx_if_eq {x : Int32} {off : Int} (tgt : Nat) (hd : decode cc pc = .ok (.ifCond .eq off, 3)) (ht : (pc : Int) + off = (tgt : Int)) (k1 : x = 0 → gx_G E own cc nL rt ini d bc bs tgt L st h em o1) (k2 : ¬ x = 0 → gx_G E own cc nL rt ini d bc bs (pc + 3) L st h em o2) : gx_G E own cc nL rt ini d bc bs pc L (.int x :: st) h em (if x = 0 then o1 else o2) :=
  gx_ite (fun q => gx_pure (fun F _ k => lv_if_eq F.1 F.2.1 hd ht (fun _ => k) (fun n => absurd q n)) (k1 q)) (fun q => gx_pure (fun F _ k => lv_if_eq F.1 F.2.1 hd ht (fun n => absurd n q) (fun _ => k)) (k2 q))
theorem gx_icmp_eq {x y : Int32} {off : Int} (tgt : Nat) (hd : decode cc pc = .ok (.if_icmp .eq off, 3)) (ht : (pc : Int) + off = (tgt : Int)) (k1 : x = y → gx_G E own cc nL rt ini d bc bs tgt L st h em o1) (k2 : ¬ x = y → gx_G E own cc nL rt ini d bc bs (pc + 3) L st h em o2) : gx_G E own cc nL rt ini d bc bs pc L (.int y :: .int x :: st) h em (if x = y then o1 else o2) :=
  gx_ite (fun q => gx_pure (fun F _ k => lv_icmp_eq F.1 F.2.1 hd ht (fun _ => k) (fun n => absurd q n)) (k1 q)) (fun q => gx_pure (fun F _ k => lv_icmp_eq F.1 F.2.1 hd ht (fun n => absurd n q) (fun _ => k)) (k2 q))
theorem gx_if_lt {x : Int32} {off : Int} (tgt : Nat) (hd : decode cc pc = .ok (.ifCond .lt off, 3)) (ht : (pc : Int) + off = (tgt : Int)) (k1 : x < 0 → gx_G E own cc nL rt ini d bc bs tgt L st h em o1) (k2 : ¬ x < 0 → gx_G E own cc nL rt ini d bc bs (pc + 3) L st h em o2) : gx_G E own cc nL rt ini d bc bs pc L (.int x :: st) h em (if x < 0 then o1 else o2) :=
  gx_ite (fun q => gx_pure (fun F _ k => lv_if_lt F.1 F.2.1 hd ht (fun _ => k) (fun n => absurd q n)) (k1 q)) (fun q => gx_pure (fun F _ k => lv_if_lt F.1 F.2.1 hd ht (fun n => absurd n q) (fun _ => k)) (k2 q))
theorem gx_icmp_lt {x y : Int32} {off : Int} (tgt : Nat) (hd : decode cc pc = .ok (.if_icmp .lt off, 3)) (ht : (pc : Int) + off = (tgt : Int)) (k1 : x < y → gx_G E own cc nL rt ini d bc bs tgt L st h em o1) (k2 : ¬ x < y → gx_G E own cc nL rt ini d bc bs (pc + 3) L st h em o2) : gx_G E own cc nL rt ini d bc bs pc L (.int y :: .int x :: st) h em (if x < y then o1 else o2) :=
  gx_ite (fun q => gx_pure (fun F _ k => lv_icmp_lt F.1 F.2.1 hd ht (fun _ => k) (fun n => absurd q n)) (k1 q)) (fun q => gx_pure (fun F _ k => lv_icmp_lt F.1 F.2.1 hd ht (fun n => absurd n q) (fun _ => k)) (k2 q))
theorem gx_if_ge {x : Int32} {off : Int} (tgt : Nat) (hd : decode cc pc = .ok (.ifCond .ge off, 3)) (ht : (pc : Int) + off = (tgt : Int)) (k1 : 0 ≤ x → gx_G E own cc nL rt ini d bc bs tgt L st h em o1) (k2 : ¬ 0 ≤ x → gx_G E own cc nL rt ini d bc bs (pc + 3) L st h em o2) : gx_G E own cc nL rt ini d bc bs pc L (.int x :: st) h em (if 0 ≤ x then o1 else o2) :=
  gx_ite (fun q => gx_pure (fun F _ k => lv_if_ge F.1 F.2.1 hd ht (fun _ => k) (fun n => absurd q n)) (k1 q)) (fun q => gx_pure (fun F _ k => lv_if_ge F.1 F.2.1 hd ht (fun n => absurd n q) (fun _ => k)) (k2 q))
theorem gx_icmp_ge {x y : Int32} {off : Int} (tgt : Nat) (hd : decode cc pc = .ok (.if_icmp .ge off, 3)) (ht : (pc : Int) + off = (tgt : Int)) (k1 : y ≤ x → gx_G E own cc nL rt ini d bc bs tgt L st h em o1) (k2 : ¬ y ≤ x → gx_G E own cc nL rt ini d bc bs (pc + 3) L st h em o2) : gx_G E own cc nL rt ini d bc bs pc L (.int y :: .int x :: st) h em (if y ≤ x then o1 else o2) :=
  gx_ite (fun q => gx_pure (fun F _ k => lv_icmp_ge F.1 F.2.1 hd ht (fun _ => k) (fun n => absurd q n)) (k1 q)) (fun q => gx_pure (fun F _ k => lv_icmp_ge F.1 F.2.1 hd ht (fun n => absurd n q) (fun _ => k)) (k2 q))
theorem gx_if_gt {x : Int32} {off : Int} (tgt : Nat) (hd : decode cc pc = .ok (.ifCond .gt off, 3)) (ht : (pc : Int) + off = (tgt : Int)) (k1 : 0 < x → gx_G E own cc nL rt ini d bc bs tgt L st h em o1) (k2 : ¬ 0 < x → gx_G E own cc nL rt ini d bc bs (pc + 3) L st h em o2) : gx_G E own cc nL rt ini d bc bs pc L (.int x :: st) h em (if 0 < x then o1 else o2) :=
  gx_ite (fun q => gx_pure (fun F _ k => lv_if_gt F.1 F.2.1 hd ht (fun _ => k) (fun n => absurd q n)) (k1 q)) (fun q => gx_pure (fun F _ k => lv_if_gt F.1 F.2.1 hd ht (fun n => absurd n q) (fun _ => k)) (k2 q))
theorem gx_icmp_gt {x y : Int32} {off : Int} (tgt : Nat) (hd : decode cc pc = .ok (.if_icmp .gt off, 3)) (ht : (pc : Int) + off = (tgt : Int)) (k1 : y < x → gx_G E own cc nL rt ini d bc bs tgt L st h em o1) (k2 : ¬ y < x → gx_G E own cc nL rt ini d bc bs (pc + 3) L st h em o2) : gx_G E own cc nL rt ini d bc bs pc L (.int y :: .int x :: st) h em (if y < x then o1 else o2) :=
  gx_ite (fun q => gx_pure (fun F _ k => lv_icmp_gt F.1 F.2.1 hd ht (fun _ => k) (fun n => absurd q n)) (k1 q)) (fun q => gx_pure (fun F _ k => lv_icmp_gt F.1 F.2.1 hd ht (fun n => absurd n q) (fun _ => k)) (k2 q))
theorem gx_if_le {x : Int32} {off : Int} (tgt : Nat) (hd : decode cc pc = .ok (.ifCond .le off, 3)) (ht : (pc : Int) + off = (tgt : Int)) (k1 : x ≤ 0 → gx_G E own cc nL rt ini d bc bs tgt L st h em o1) (k2 : ¬ x ≤ 0 → gx_G E own cc nL rt ini d bc bs (pc + 3) L st h em o2) : gx_G E own cc nL rt ini d bc bs pc L (.int x :: st) h em (if x ≤ 0 then o1 else o2) :=
  gx_ite (fun q => gx_pure (fun F _ k => lv_if_le F.1 F.2.1 hd ht (fun _ => k) (fun n => absurd q n)) (k1 q)) (fun q => gx_pure (fun F _ k => lv_if_le F.1 F.2.1 hd ht (fun n => absurd n q) (fun _ => k)) (k2 q))
theorem gx_icmp_le {x y : Int32} {off : Int} (tgt : Nat) (hd : decode cc pc = .ok (.if_icmp .le off, 3)) (ht : (pc : Int) + off = (tgt : Int)) (k1 : x ≤ y → gx_G E own cc nL rt ini d bc bs tgt L st h em o1) (k2 : ¬ x ≤ y → gx_G E own cc nL rt ini d bc bs (pc + 3) L st h em o2) : gx_G E own cc nL rt ini d bc bs pc L (.int y :: .int x :: st) h em (if x ≤ y then o1 else o2) :=
  gx_ite (fun q => gx_pure (fun F _ k => lv_icmp_le F.1 F.2.1 hd ht (fun _ => k) (fun n => absurd q n)) (k1 q)) (fun q => gx_pure (fun F _ k => lv_icmp_le F.1 F.2.1 hd ht (fun n => absurd n q) (fun _ => k)) (k2 q))
theorem gx_if_ne {x : Int32} {off : Int} (tgt : Nat) (hd : decode cc pc = .ok (.ifCond .ne off, 3)) (ht : (pc : Int) + off = (tgt : Int)) (k1 : ¬ x = 0 → gx_G E own cc nL rt ini d bc bs tgt L st h em o1) (k2 : x = 0 → gx_G E own cc nL rt ini d bc bs (pc + 3) L st h em o2) : gx_G E own cc nL rt ini d bc bs pc L (.int x :: st) h em (if x = 0 then o2 else o1) :=
  gx_ite (fun q => gx_pure (fun F _ k => lv_if_ne F.1 F.2.1 hd ht (fun n => absurd q n) (fun _ => k)) (k2 q)) (fun q => gx_pure (fun F _ k => lv_if_ne F.1 F.2.1 hd ht (fun _ => k) (fun n => absurd n q)) (k1 q))
theorem gx_icmp_ne {x y : Int32} {off : Int} (tgt : Nat) (hd : decode cc pc = .ok (.if_icmp .ne off, 3)) (ht : (pc : Int) + off = (tgt : Int)) (k1 : ¬ x = y → gx_G E own cc nL rt ini d bc bs tgt L st h em o1) (k2 : x = y → gx_G E own cc nL rt ini d bc bs (pc + 3) L st h em o2) : gx_G E own cc nL rt ini d bc bs pc L (.int y :: .int x :: st) h em (if x = y then o2 else o1) :=
  gx_ite (fun q => gx_pure (fun F _ k => lv_icmp_ne F.1 F.2.1 hd ht (fun n => absurd q n) (fun _ => k)) (k2 q)) (fun q => gx_pure (fun F _ k => lv_icmp_ne F.1 F.2.1 hd ht (fun _ => k) (fun n => absurd n q)) (k1 q))
theorem gx_tabIn {dflt lo hi : Int} {offs : Array Int} {len : Nat} {x : Int32} {off : Int} (tgt : Nat) (hd : decode cc pc = .ok (.tableswitch dflt lo hi offs, len)) (h1 : ¬ x.toInt < lo) (h2 : ¬ hi < x.toInt) (ho : offs[(x.toInt - lo).toNat]? = some off) (ht : (pc : Int) + off = (tgt : Int)) (k : gx_G E own cc nL rt ini d bc bs tgt L st h em o) : gx_G E own cc nL rt ini d bc bs pc L (.int x :: st) h em o := gx_pure (fun F _ k => lv_tableIn F.1 F.2.1 hd h1 h2 ho ht k) k
theorem gx_tabOut {dflt lo hi : Int} {offs : Array Int} {len : Nat} {x : Int32} (tgt : Nat) (hd : decode cc pc = .ok (.tableswitch dflt lo hi offs, len)) (hx : x.toInt < lo ∨ hi < x.toInt) (ht : (pc : Int) + dflt = (tgt : Int)) (k : gx_G E own cc nL rt ini d bc bs tgt L st h em o) : gx_G E own cc nL rt ini d bc bs pc L (.int x :: st) h em o := gx_pure (fun F _ k => lv_tableOut F.1 F.2.1 hd hx ht k) k
theorem gx_look {dflt : Int} {ps : Array (Int × Int)} {len : Nat} {x : Int32} {off : Int} (tgt : Nat) (hd : decode cc pc = .ok (.lookupswitch dflt ps, len)) (hp : (ps.toList.zip (ps.toList.drop 1)).all (fun (a, next) => a.1 < next.1) = true) (ho : Op.lookupswitch.offset ps.toList dflt x.toInt = off) (ht : (pc : Int) + off = (tgt : Int)) (k : gx_G E own cc nL rt ini d bc bs tgt L st h em o) : gx_G E own cc nL rt ini d bc bs pc L (.int x :: st) h em o := gx_pure (fun F _ k => lv_lookup F.1 F.2.1 hd hp ho ht k) k
theorem gx_istore_n {n : Fin 4} (i : Nat) {x : Int32} (L' : List (Option Value)) (hd : decode cc pc = .ok (.istore_n n, 1)) (hi : (n : Nat) = i) (hn : i < nL) (hl : gx_set1 L i (.int x) = L') (k : gx_G E own cc nL rt ini d bc bs (pc + 1) L' st h em o) : gx_G E own cc nL rt ini d bc bs pc L (.int x :: st) h em o := by
  subst hl
  intro r h' ho p e R s m args below meth c Q F hR H locs cells slots ls hP hS hc hs hL
  exact lv_istore_n (nL := nL) F.1 F.2.1 hd hi hL.2 hn rfl (fun ls' hL' => k r h' ho p e R s m args below meth c Q F hR H locs cells slots ls' hP hS hc hs (hL.set1 (v := .int x) F.fm hL'))
theorem gx_istore {i : Nat} {x : Int32} (L' : List (Option Value)) (hd : decode cc pc = .ok (.istore i, 2)) (hn : i < nL) (hl : gx_set1 L i (.int x) = L') (k : gx_G E own cc nL rt ini d bc bs (pc + 2) L' st h em o) : gx_G E own cc nL rt ini d bc bs pc L (.int x :: st) h em o := by
  subst hl
  intro r h' ho p e R s m args below meth c Q F hR H locs cells slots ls hP hS hc hs hL
  exact lv_istore (nL := nL) F.1 F.2.1 hd hL.2 hn rfl (fun ls' hL' => k r h' ho p e R s m args below meth c Q F hR H locs cells slots ls' hP hS hc hs (hL.set1 (v := .int x) F.fm hL'))
theorem gx_astore_n {n : Fin 4} (i : Nat) {x : Nat} (L' : List (Option Value)) (hd : decode cc pc = .ok (.astore_n n, 1)) (hi : (n : Nat) = i) (hn : i < nL) (hl : gx_set1 L i (.ref x) = L') (k : gx_G E own cc nL rt ini d bc bs (pc + 1) L' st h em o) : gx_G E own cc nL rt ini d bc bs pc L (.ref x :: st) h em o := by
  subst hl
  intro r h' ho p e R s m args below meth c Q F hR H locs cells slots ls hP hS hc hs hL
  exact lv_astore_n (nL := nL) F.1 F.2.1 hd hi hL.2 hn rfl (fun ls' hL' => k r h' ho p e R s m args below meth c Q F hR H locs cells slots ls' hP hS hc hs (hL.set1 (v := .ref x) F.fm hL'))
theorem gx_astore {i : Nat} {x : Nat} (L' : List (Option Value)) (hd : decode cc pc = .ok (.astore i, 2)) (hn : i < nL) (hl : gx_set1 L i (.ref x) = L') (k : gx_G E own cc nL rt ini d bc bs (pc + 2) L' st h em o) : gx_G E own cc nL rt ini d bc bs pc L (.ref x :: st) h em o := by
  subst hl
  intro r h' ho p e R s m args below meth c Q F hR H locs cells slots ls hP hS hc hs hL
  exact lv_astore (nL := nL) F.1 F.2.1 hd hL.2 hn rfl (fun ls' hL' => k r h' ho p e R s m args below meth c Q F hR H locs cells slots ls' hP hS hc hs (hL.set1 (v := .ref x) F.fm hL'))
theorem gx_lstore_n {n : Fin 4} (i : Nat) {x : Int64} (L' : List (Option Value)) (hd : decode cc pc = .ok (.lstore_n n, 1)) (hi : (n : Nat) = i) (hn : i + 1 < nL) (hl : gx_set2 L i (.long x) = L') (k : gx_G E own cc nL rt ini d bc bs (pc + 1) L' st h em o) : gx_G E own cc nL rt ini d bc bs pc L (.long x :: st) h em o := by
  subst hl
  intro r h' ho p e R s m args below meth c Q F hR H locs cells slots ls hP hS hc hs hL
  exact lv_lstore_n (nL := nL) F.1 F.2.1 hd hi hL.2 hn rfl (fun ls' hL' => k r h' ho p e R s m args below meth c Q F hR H locs cells slots ls' hP hS hc hs (hL.set2 (v := .long x) F.fm hL'))
theorem gx_lstore {i : Nat} {x : Int64} (L' : List (Option Value)) (hd : decode cc pc = .ok (.lstore i, 2)) (hn : i + 1 < nL) (hl : gx_set2 L i (.long x) = L') (k : gx_G E own cc nL rt ini d bc bs (pc + 2) L' st h em o) : gx_G E own cc nL rt ini d bc bs pc L (.long x :: st) h em o := by
  subst hl
  intro r h' ho p e R s m args below meth c Q F hR H locs cells slots ls hP hS hc hs hL
  exact lv_lstore (nL := nL) F.1 F.2.1 hd hL.2 hn rfl (fun ls' hL' => k r h' ho p e R s m args below meth c Q F hR H locs cells slots ls' hP hS hc hs (hL.set2 (v := .long x) F.fm hL'))
theorem gx_iinc {i : Nat} {n : Int} {x : Int32} (y : Int32) (L' : List (Option Value)) (hd : decode cc pc = .ok (.iinc i n, 3)) (hx : L[i]? = some (some (.int x))) (hv : Int32.ofInt n = y) (hn : i < nL) (hl : gx_set1 L i (.int (x + y)) = L') (k : gx_G E own cc nL rt ini d bc bs (pc + 3) L' st h em o) : gx_G E own cc nL rt ini d bc bs pc L st h em o := by
  subst hl
  subst hv
  intro r h' ho p e R s m args below meth c Q F hR H locs cells slots ls hP hS hc hs hL
  obtain ⟨q, hq⟩ := List.getElem?_of_mem (List.mem_map.mpr ⟨(i, .int x), (gx_as_iff L 0 i (.int x)).mpr ⟨Nat.zero_le _, hx⟩, rfl⟩ : (i, gx_v E (.int x)) ∈ (gx_as 0 L).map (fun q => (q.1, gx_v E q.2)))
  exact lv_iinc (nL := nL) F.1 F.2.1 hd hL.2 hq rfl hn rfl (fun ls' hL' => k r h' ho p e R s m args below meth c Q F hR H locs cells slots ls' hP hS hc hs (hL.set1 (v := .int (x + Int32.ofInt n)) F.fm hL'))
end GXS
end
section
/-! fields, arrays, what is made -/
def gx_fld (h : gx_H) (a ci k : Nat) : Option Value := match h.2 a with
  | .inr x => if x.1 = ci then x.2[k]? else none
  | .inl _ => none
def gx_fI (h : gx_H) (a ci k : Nat) : Option Int32 := match gx_fld h a ci k with
  | some (.int x) => some x
  | _ => none
def gx_fJ (h : gx_H) (a ci k : Nat) : Option Int64 := match gx_fld h a ci k with
  | some (.long x) => some x
  | _ => none
def gx_fR (h : gx_H) (a ci k : Nat) : Option Nat := match gx_fld h a ci k with
  | some (.ref x) => some x
  | _ => none
def gx_pF (h : gx_H) (a ci k : Nat) (v : Value) : Option gx_H := match h.2 a with
  | .inr x => if x.1 = ci ∧ k < x.2.length then some (h.1, va_up h.2 a (.inr (ci, x.2.set k v))) else none
  | .inl _ => none
def gx_isO (h : gx_H) (a ci : Nat) : Option Unit := match h.2 a with
  | .inr x => if x.1 = ci ∧ ci < 10 then some () else none
  | .inl _ => none
def gx_aI (t : Nat) (h : gx_H) (a : Nat) (i : Int32) : Option Int32 := match h.2 a with
  | .inl (t', n, .inl f) => if t' = t ∧ ¬ (i < 0 ∨ n ≤ i.toNatClampNeg) then some (f i.toNatClampNeg) else none
  | _ => none
def gx_sI (t : Nat) (h : gx_H) (a : Nat) (i x : Int32) : Option gx_H := match h.2 a with
  | .inl (t', n, .inl f) => if t' = t ∧ ¬ (i < 0 ∨ n ≤ i.toNatClampNeg) then some (h.1, va_up h.2 a (.inl (t, n, .inl (upd f i.toNatClampNeg x)))) else none
  | _ => none
def gx_aR (t : Nat) (h : gx_H) (a : Nat) (i : Int32) : Option Nat := match h.2 a with
  | .inl (t', n, .inr (.inr (.inr (.inr f)))) => if t' = t ∧ ¬ (i < 0 ∨ n ≤ i.toNatClampNeg) then f i.toNatClampNeg else none
  | _ => none
def gx_sR (t : Nat) (h : gx_H) (a : Nat) (i : Int32) (v : Nat) : Option gx_H := match h.2 a with
  | .inl (t', n, .inr (.inr (.inr (.inr f)))) => if t' = t ∧ ¬ (i < 0 ∨ n ≤ i.toNatClampNeg) then some (h.1, va_up h.2 a (.inl (t, n, .inr (.inr (.inr (.inr (va_up f i.toNatClampNeg (some v)))))))) else none
  | _ => none
def gx_al (h : gx_H) (a : Nat) : Option Int32 := match h.2 a with
  | .inl x => if x.1 < 5 then some (Int32.ofNat x.2.1) else none
  | .inr _ => none
def gx_new (c : gx_C) (h : gx_H) : gx_H := (h.1 + 1, va_up h.2 h.1 c)
/-- the cell's number fits an array of references -/
def gx_isE (h : gx_H) (a ci : Nat) : Prop := ∃ fs, h.2 a = .inr (ci, fs)
theorem gx_isO_of {α : Type} {h : gx_H} {a ci : Nat} {f : Unit → Option α} {x : α} (q : (gx_isO h a ci).bind f = some x) : ci < 10 ∧ ∃ fs, h.2 a = .inr (ci, fs) := by
  obtain ⟨u, hu, -⟩ := Option.bind_eq_some_iff.mp q
  unfold gx_isO at hu
  split at hu
  · rename_i y hy
    split at hu
    · rename_i hc
      obtain ⟨rfl, h2⟩ := hc
      exact ⟨h2, y.2, hy⟩
    · cases hu
  · cases hu
def gx_Fld (own : String) (idx ci k : Nat) : Prop := ∃ (C : String) (T : u_T) (N : Nat), vwCl[ci]? = some (C, T, N) ∧ (∀ w ∈ u_ws C T N, w ∈ gx_tbl) ∧ k < N ∧ Cond.fieldLink own idx (T k).1 (T k).2.1 (T k).2.2.1 ∈ gx_tbl
def gx_FldP (own : String) (idx ci k : Nat) (fin : Bool) (ty : FieldType) : Prop := ∃ (C : String) (T : u_T) (N : Nat), vwCl[ci]? = some (C, T, N) ∧ (∀ w ∈ u_ws C T N, w ∈ gx_tbl) ∧ k < N ∧ Cond.fieldLink own idx (T k).1 (T k).2.1 (T k).2.2.1 ∈ gx_tbl ∧
  (∃ tf : Nat → FieldType, ∀ k, k < N → parseFieldDescriptor (T k).2.2.1 = some (tf k)) ∧ (∀ a, a < N → ∀ b, b < N → a ≠ b → (T a).2.1 ≠ (T b).2.1) ∧ (T k).2.2.2 = fin ∧ parseFieldDescriptor (T k).2.2.1 = some ty ∧ (fin = true → (T k).1 = own)
def gx_Cls (own : String) (idx ci N : Nat) (fs : List Value) : Prop := ∃ (C : String) (T : u_T) (ty : Nat → FieldType), vwCl[ci]? = some (C, T, N) ∧ (∀ w ∈ u_ws C T N, w ∈ gx_tbl) ∧ (∀ k, k < N → parseFieldDescriptor (T k).2.2.1 = some (ty k)) ∧ Cond.classLink own idx C ∈ gx_tbl ∧ Cond.instantiable C N ∈ gx_tbl ∧ Cond.initialized C ∈ gx_tbl ∧ ∀ j, j < N → defaultValue (ty j) = vp_V fs j
theorem gx_fld_of {h : gx_H} {a ci k : Nat} {v : Value} (q : gx_fld h a ci k = some v) : ∃ fs, h.2 a = .inr (ci, fs) ∧ fs[k]? = some v := by
  unfold gx_fld at q
  split at q
  · rename_i y hy
    split at q
    · rename_i hc
      subst hc
      exact ⟨y.2, hy, q⟩
    · cases q
  · cases q
theorem gx_ne_junk {h : gx_H} {a ci k : Nat} {fs : List Value} {v : Value} (h1 : h.2 a = .inr (ci, fs)) (h2 : fs[k]? = some v) : h.2 a ≠ gx_junk := fun q => by
  rw [h1] at q
  cases q
  simp at h2
theorem gx_fI_of {h : gx_H} {a ci k : Nat} {x : Int32} (q : gx_fI h a ci k = some x) : gx_fld h a ci k = some (.int x) := by
  unfold gx_fI at q
  split at q
  · cases q; assumption
  · cases q
theorem gx_fJ_of {h : gx_H} {a ci k : Nat} {x : Int64} (q : gx_fJ h a ci k = some x) : gx_fld h a ci k = some (.long x) := by
  unfold gx_fJ at q
  split at q
  · cases q; assumption
  · cases q
theorem gx_fR_of {h : gx_H} {a ci k : Nat} {x : Nat} (q : gx_fR h a ci k = some x) : gx_fld h a ci k = some (.ref x) := by
  unfold gx_fR at q
  split at q
  · cases q; assumption
  · cases q
section GXH
variable {E : gx_Env} {own : String} {cc : ByteArray} {nL : Nat} {rt : Option FieldType} {ini : Bool} {d bc bs pc : Nat} {L : List (Option Value)} {st : List Value} {h : gx_H} {ρ : Type} {em : ρ → Option Value} {o o1 o2 : Option (ρ × gx_H)}
theorem gx_getV {idx ci k a : Nat} {v : Value} (hF : gx_Fld own idx ci k) (hd : decode cc pc = .ok (.getfield idx, 3)) (hv : gx_fld h a ci k = some v) (kk : gx_G E own cc nL rt ini d bc bs (pc + 3) L (v :: st) h em o) : gx_G E own cc nL rt ini d bc bs pc L (.ref a :: st) h em o := by
  intro r h' ho p e R s m args below meth c Q F hR H locs cells slots ls hP hS hc hs hL
  obtain ⟨C, T, N, f1, f2, f3, f4⟩ := hF
  obtain ⟨fs, g1, g2⟩ := gx_fld_of hv
  have hlt := hP.lt (gx_ne_junk g1 g2)
  refine va_get (Ts := gx_tbl) (ref := (T k).1) F.1 F.2.1 F.2.2.2.2.1 f2 F.2.2.2.1 F.2.2.2.2.2.1.1 (hP.one hlt g1) 0 (ci := ci) (fs := fs.map (gx_v E)) rfl f1 k f3 (F.2.2.2.2.1 _ f4) (fun x hx => hx) (v := gx_v E v) (by rw [List.getElem?_map, g2]; rfl) hd ?_
  exact kk r h' ho p e R s m args below meth c Q F hR H locs cells slots ls hP hS hc hs hL
theorem gx_getI {idx ci k a : Nat} {f : Int32 → Option (ρ × gx_H)} (hF : gx_Fld own idx ci k) (hd : decode cc pc = .ok (.getfield idx, 3)) (kk : ∀ x, gx_G E own cc nL rt ini d bc bs (pc + 3) L (.int x :: st) h em (f x)) : gx_G E own cc nL rt ini d bc bs pc L (.ref a :: st) h em ((gx_fI h a ci k).bind f) := gx_bind fun x hx => gx_getV hF hd (gx_fI_of hx) (kk x)
theorem gx_getJ {idx ci k a : Nat} {f : Int64 → Option (ρ × gx_H)} (hF : gx_Fld own idx ci k) (hd : decode cc pc = .ok (.getfield idx, 3)) (kk : ∀ x, gx_G E own cc nL rt ini d bc bs (pc + 3) L (.long x :: st) h em (f x)) : gx_G E own cc nL rt ini d bc bs pc L (.ref a :: st) h em ((gx_fJ h a ci k).bind f) := gx_bind fun x hx => gx_getV hF hd (gx_fJ_of hx) (kk x)
theorem gx_getR {idx ci k a : Nat} {f : Nat → Option (ρ × gx_H)} (hF : gx_Fld own idx ci k) (hd : decode cc pc = .ok (.getfield idx, 3)) (kk : ∀ x, gx_G E own cc nL rt ini d bc bs (pc + 3) L (.ref x :: st) h em (f x)) : gx_G E own cc nL rt ini d bc bs pc L (.ref a :: st) h em ((gx_fR h a ci k).bind f) := gx_bind fun x hx => gx_getV hF hd (gx_fR_of hx) (kk x)
theorem gx_pF_of {h h1 : gx_H} {a ci k : Nat} {v : Value} (q : gx_pF h a ci k v = some h1) : ∃ fs, h.2 a = .inr (ci, fs) ∧ k < fs.length ∧ h1 = (h.1, va_up h.2 a (.inr (ci, fs.set k v))) := by
  unfold gx_pF at q
  split at q
  · rename_i y hy
    split at q
    · rename_i hc
      obtain ⟨rfl, h2⟩ := hc
      cases q
      exact ⟨y.2, hy, h2, rfl⟩
    · cases q
  · cases q
theorem gx_putV {idx ci k a : Nat} {v : Value} {fin : Bool} {ty : FieldType} {f : gx_H → Option (ρ × gx_H)} (hF : gx_FldP own idx ci k fin ty) (hi : fin = true → ini = true) (hd : decode cc pc = .ok (.putfield idx, 3)) (hn : narrow ty (gx_v E v) = gx_v E v) (hfit : fits ty (gx_v E v) = true)
    (kk : ∀ h1, gx_G E own cc nL rt ini d bc bs (pc + 3) L st h1 em (f h1)) : gx_G E own cc nL rt ini d bc bs pc L (v :: .ref a :: st) h em ((gx_pF h a ci k v).bind f) := by
  refine gx_bind fun h1 hx => ?_
  obtain ⟨fs, g1, g2, rfl⟩ := gx_pF_of hx
  intro r h' ho p e R s m args below meth c Q F hR H locs cells slots ls hP hS hcc hs hL
  obtain ⟨C, T, N, hc, hin, hk, hlink, ⟨tf, hty⟩, hnm, hfin, hpd, hdecl⟩ := hF
  have hlt := hP.lt (gx_ne_junk g1 (List.getElem?_eq_getElem g2))
  have hK := F.2.2.2.2.2.1.1
  have hts := F.2.2.2.2.1
  have hap := va_apart (own := own) hts hin tf hty hnm hK hc
  have hat := hP.2.1 a hlt
  rw [g1] at hat
  obtain ⟨r', h1', cell, q1, q2, q3, q4⟩ := hat
  have hr : r' = (C, T, N) := Option.some.inj (h1'.symm.trans hc)
  subst hr
  obtain ⟨hSl, hfc, kC, hkC, hkind⟩ := hK.1 ci _ hc
  obtain ⟨cf, kf, fi, fd, hfi, hsl⟩ := hSl k hk
  have hlay := hts _ (hin _ (u_in_lay hk))
  unfold u_lay at hlay
  have hst := (u_facts hfc hkC (u_lays hts hin hk) hfi).1
  have fin' : ∀ (H' : Heap), H'[gx_b E + a]? = some (cell.setSlot fd.slot (gx_v E v)) → H'.size = H.size → (∀ q, q ≠ gx_b E + a → H'[q]? = H[q]?) → W p (gx_l E) e R s m args below meth c H' (locs ++ [⟨gx_b E + a, fd.slot⟩]) cells slots Q (F0 m (pc + 3) ls (st.map (gx_v E))) := by
    intro H' e1 e2 e3
    refine kk _ r h' ho p e R s m args below meth c Q F hR H' _ cells slots ls (hP.set hlt e2 e3 ⟨_, hc, ?_⟩) (hS.put e2 e3 (Nat.le_add_right _ _)) hcc hs hL
    rw [hsl] at e1
    show t_OB _ _ _ _ H' (vp_V ((fs.set k v).map (gx_v E)))
    rw [List.map_set]
    exact t_OB.to (V := updV (vp_V (fs.map (gx_v E))) k (gx_v E v)) ⟨_, e1, q2, q3, t_set q4 hap hk _⟩ (fun j _ => vp_updV_set (by rw [List.length_map]; exact g2) _ j)
  cases fin with
  | false =>
    rw [if_neg (by rw [hfin]; decide)] at hlay
    have h6 := u_store hfc hkC hkind hlay hfi hpd hn hfit
    exact W.putK F.1 F.2.1 (f := fd) ⟨F.2.2.2.1, hts _ hlink, ⟨_, _, _, hfi⟩, hst⟩ (by rw [q2]; exact h6) q1 q3 (by rw [hsl]; exact k2_hasslot (q4 k hk)) rfl rfl hd fin'
  | true =>
    rw [if_pos hfin] at hlay
    have hcf : m.cls = cf := by
      obtain ⟨_, _, c', _, _, _, -, -, hf', -, -, -, hown2, -⟩ := Cond.laysFinal_spec hlay
      have e1 : c' = cf := by have := hfi.symm.trans hf'; simp at this; exact this.1.symm
      rw [hdecl rfl] at hown2
      rw [← e1]; exact Option.some.inj (F.2.2.2.1.symm.trans hown2)
    have h6 := u_fits hfc hkC hkind (Or.inr hlay) hfi hpd hn hfit
    exact W.putFinK F.1 F.2.1 F.2.2.2.1 (hts _ hlink) hfi hst hcf (F.2.2.2.2.2.2.2.1 (hi rfl)) (by rw [q2]; exact h6) q1 q3 (by rw [hsl]; exact k2_hasslot (q4 k hk)) rfl rfl hd fin'
theorem gx_putI {idx ci k a : Nat} {x : Int32} {fin : Bool} {f : gx_H → Option (ρ × gx_H)} (hF : gx_FldP own idx ci k fin .int) (hi : fin = true → ini = true) (hd : decode cc pc = .ok (.putfield idx, 3)) (kk : ∀ h1, gx_G E own cc nL rt ini d bc bs (pc + 3) L st h1 em (f h1)) : gx_G E own cc nL rt ini d bc bs pc L (.int x :: .ref a :: st) h em ((gx_pF h a ci k (.int x)).bind f) := gx_putV hF hi hd rfl rfl kk
theorem gx_putJ {idx ci k a : Nat} {x : Int64} {fin : Bool} {f : gx_H → Option (ρ × gx_H)} (hF : gx_FldP own idx ci k fin .long) (hi : fin = true → ini = true) (hd : decode cc pc = .ok (.putfield idx, 3)) (kk : ∀ h1, gx_G E own cc nL rt ini d bc bs (pc + 3) L st h1 em (f h1)) : gx_G E own cc nL rt ini d bc bs pc L (.long x :: .ref a :: st) h em ((gx_pF h a ci k (.long x)).bind f) := gx_putV hF hi hd rfl rfl kk
theorem gx_putO {idx ci k a x : Nat} {fin : Bool} {C : String} {f : gx_H → Option (ρ × gx_H)} (hF : gx_FldP own idx ci k fin (.object C)) (hi : fin = true → ini = true) (hd : decode cc pc = .ok (.putfield idx, 3)) (kk : ∀ h1, gx_G E own cc nL rt ini d bc bs (pc + 3) L st h1 em (f h1)) : gx_G E own cc nL rt ini d bc bs pc L (.ref x :: .ref a :: st) h em ((gx_pF h a ci k (.ref x)).bind f) := gx_putV hF hi hd rfl rfl kk
theorem gx_putA {idx ci k a x : Nat} {fin : Bool} {C : FieldType} {f : gx_H → Option (ρ × gx_H)} (hF : gx_FldP own idx ci k fin (.array C)) (hi : fin = true → ini = true) (hd : decode cc pc = .ok (.putfield idx, 3)) (kk : ∀ h1, gx_G E own cc nL rt ini d bc bs (pc + 3) L st h1 em (f h1)) : gx_G E own cc nL rt ini d bc bs pc L (.ref x :: .ref a :: st) h em ((gx_pF h a ci k (.ref x)).bind f) := gx_putV hF hi hd rfl rfl kk
end GXH
end
section
section GXA
variable {E : gx_Env} {own : String} {cc : ByteArray} {nL : Nat} {rt : Option FieldType} {ini : Bool} {d bc bs pc : Nat} {L : List (Option Value)} {st : List Value} {h : gx_H} {ρ : Type} {em : ρ → Option Value} {o o1 o2 : Option (ρ × gx_H)}
theorem gx_aI_of {t : Nat} {h : gx_H} {a : Nat} {i x : Int32} (q : gx_aI t h a i = some x) : ∃ (n : Nat) (f : Nat → Int32), h.2 a = .inl (t, n, .inl f) ∧ vp_in i n ∧ x = f i.toNatClampNeg := by
  unfold gx_aI at q
  split at q
  · rename_i t' n f hy
    split at q
    · rename_i hc
      obtain ⟨rfl, h2⟩ := hc
      cases q
      exact ⟨n, f, hy, h2, rfl⟩
    · cases q
  · cases q
theorem gx_sI_of {t : Nat} {h h1 : gx_H} {a : Nat} {i x : Int32} (q : gx_sI t h a i x = some h1) : ∃ (n : Nat) (f : Nat → Int32), h.2 a = .inl (t, n, .inl f) ∧ vp_in i n ∧ h1 = (h.1, va_up h.2 a (.inl (t, n, .inl (upd f i.toNatClampNeg x)))) := by
  unfold gx_sI at q
  split at q
  · rename_i t' n f hy
    split at q
    · rename_i hc
      obtain ⟨rfl, h2⟩ := hc
      cases q
      exact ⟨n, f, hy, h2, rfl⟩
    · cases q
  · cases q
theorem gx_aR_of {t : Nat} {h : gx_H} {a : Nat} {i : Int32} {x : Nat} (q : gx_aR t h a i = some x) : ∃ (n : Nat) (f : Nat → Option Nat), h.2 a = .inl (t, n, .inr (.inr (.inr (.inr f)))) ∧ vp_in i n ∧ f i.toNatClampNeg = some x := by
  unfold gx_aR at q
  split at q
  · rename_i t' n f hy
    split at q
    · rename_i hc
      obtain ⟨rfl, h2⟩ := hc
      exact ⟨n, f, hy, h2, q⟩
    · cases q
  · cases q
theorem gx_sR_of {t : Nat} {h h1 : gx_H} {a v : Nat} {i : Int32} (q : gx_sR t h a i v = some h1) : ∃ (n : Nat) (f : Nat → Option Nat), h.2 a = .inl (t, n, .inr (.inr (.inr (.inr f)))) ∧ vp_in i n ∧ h1 = (h.1, va_up h.2 a (.inl (t, n, .inr (.inr (.inr (.inr (va_up f i.toNatClampNeg (some v)))))))) := by
  unfold gx_sR at q
  split at q
  · rename_i t' n f hy
    split at q
    · rename_i hc
      obtain ⟨rfl, h2⟩ := hc
      cases q
      exact ⟨n, f, hy, h2, rfl⟩
    · cases q
  · cases q
theorem gx_nj {h : gx_H} {a : Nat} {x : Nat × vp_A} (h1 : h.2 a = .inl x) : h.2 a ≠ gx_junk := fun q => by
  rw [h1] at q
  cases q
theorem gx_iald {a : Nat} {i : Int32} {f : Int32 → Option (ρ × gx_H)} (hd : decode cc pc = .ok (.iaload, 1)) (kk : ∀ x, gx_G E own cc nL rt ini d bc bs (pc + 1) L (.int x :: st) h em (f x)) : gx_G E own cc nL rt ini d bc bs pc L (.int i :: .ref a :: st) h em ((gx_aI 0 h a i).bind f) := by
  refine gx_bind fun x hx => ?_
  obtain ⟨n, g, g1, g2, rfl⟩ := gx_aI_of hx
  intro r h' ho p e R s m args below meth c Q F hR H locs cells slots ls hP hS hc hs hL
  exact va_iald F.1 F.2.1 F.2.2.2.2.2.1.1 (hP.one (hP.lt (gx_nj g1)) g1) 0 0 rfl rfl g2 hd (kk _ r h' ho p e R s m args below meth c Q F hR H locs cells slots ls hP hS hc hs hL)
theorem gx_bald {a : Nat} {i : Int32} {f : Int32 → Option (ρ × gx_H)} (hd : decode cc pc = .ok (.baload, 1)) (kk : ∀ x, gx_G E own cc nL rt ini d bc bs (pc + 1) L (.int x :: st) h em (f x)) : gx_G E own cc nL rt ini d bc bs pc L (.int i :: .ref a :: st) h em ((gx_aI 1 h a i).bind f) := by
  refine gx_bind fun x hx => ?_
  obtain ⟨n, g, g1, g2, rfl⟩ := gx_aI_of hx
  intro r h' ho p e R s m args below meth c Q F hR H locs cells slots ls hP hS hc hs hL
  exact va_bald F.1 F.2.1 F.2.2.2.2.2.1.1 (hP.one (hP.lt (gx_nj g1)) g1) 0 1 rfl rfl g2 hd (kk _ r h' ho p e R s m args below meth c Q F hR H locs cells slots ls hP hS hc hs hL)
theorem gx_zald {a : Nat} {i : Int32} {f : Int32 → Option (ρ × gx_H)} (hd : decode cc pc = .ok (.baload, 1)) (kk : ∀ x, gx_G E own cc nL rt ini d bc bs (pc + 1) L (.int x :: st) h em (f x)) : gx_G E own cc nL rt ini d bc bs pc L (.int i :: .ref a :: st) h em ((gx_aI 2 h a i).bind f) := by
  refine gx_bind fun x hx => ?_
  obtain ⟨n, g, g1, g2, rfl⟩ := gx_aI_of hx
  intro r h' ho p e R s m args below meth c Q F hR H locs cells slots ls hP hS hc hs hL
  exact va_zald F.1 F.2.1 F.2.2.2.2.2.1.1 (hP.one (hP.lt (gx_nj g1)) g1) 0 2 rfl rfl g2 hd (kk _ r h' ho p e R s m args below meth c Q F hR H locs cells slots ls hP hS hc hs hL)
theorem gx_iast {a : Nat} {i x : Int32} {f : gx_H → Option (ρ × gx_H)} (hd : decode cc pc = .ok (.iastore, 1)) (kk : ∀ h1, gx_G E own cc nL rt ini d bc bs (pc + 1) L st h1 em (f h1)) : gx_G E own cc nL rt ini d bc bs pc L (.int x :: .int i :: .ref a :: st) h em ((gx_sI 0 h a i x).bind f) := by
  refine gx_bind fun h1 hx => ?_
  obtain ⟨n, g, g1, g2, rfl⟩ := gx_sI_of hx
  intro r h' ho p e R s m args below meth c Q F hR H locs cells slots ls hP hS hc hs hL
  have hlt := hP.lt (gx_nj g1)
  have hcell : H[gx_b E + a]? = some (vp_cell (gx_cT E 0) (n, .inl g)) := by
    have := hP.2.1 a hlt
    rw [g1] at this
    exact this
  refine W.iast F.1 F.2.1 hcell ((F.2.2.2.2.2.1.1.2 0 _ rfl).1 n (fun j => .int (g j))) (fun q => by cases q) (by show ¬ (i < 0 ∨ (arrV _ _ _).slots.size ≤ _); rw [arrV_size]; exact g2) rfl rfl hd fun H1 e1 z oq => ?_
  refine kk _ r h' ho p e R s m args below meth c Q F hR H1 _ cells slots ls (hP.set hlt z oq ?_) (hS.put z oq (Nat.le_add_right _ _)) hc hs hL
  show H1[gx_b E + a]? = some (vp_cell (gx_cT E 0) (n, .inl (upd g i.toNatClampNeg x)))
  rw [e1]
  rw [vp_cell_i, vp_cell_i, arrV_store]
  congr 2
  funext q
  by_cases hq : q = i.toNatClampNeg
  · subst hq
    simp [updV, upd]
  · simp [updV, upd, hq]
theorem gx_bast {a : Nat} {i x : Int32} {f : gx_H → Option (ρ × gx_H)} (hd : decode cc pc = .ok (.bastore, 1)) (kk : ∀ h1, gx_G E own cc nL rt ini d bc bs (pc + 1) L st h1 em (f h1)) : gx_G E own cc nL rt ini d bc bs pc L (.int x :: .int i :: .ref a :: st) h em ((gx_sI 1 h a i (vp_nar .byte x)).bind f) := by
  refine gx_bind fun h1 hx => ?_
  obtain ⟨n, g, g1, g2, rfl⟩ := gx_sI_of hx
  intro r h' ho p e R s m args below meth c Q F hR H locs cells slots ls hP hS hc hs hL
  have hlt := hP.lt (gx_nj g1)
  have hcell : H[gx_b E + a]? = some (vp_cell (gx_cT E 1) (n, .inl g)) := by
    have := hP.2.1 a hlt
    rw [g1] at this
    exact this
  refine W.bast F.1 F.2.1 hcell ((F.2.2.2.2.2.1.1.2 1 _ rfl).1 n (fun j => .int (g j))) (fun q => by cases q) (by show ¬ (i < 0 ∨ (arrV _ _ _).slots.size ≤ _); rw [arrV_size]; exact g2) rfl rfl hd fun H1 e1 z oq => ?_
  refine kk _ r h' ho p e R s m args below meth c Q F hR H1 _ cells slots ls (hP.set hlt z oq ?_) (hS.put z oq (Nat.le_add_right _ _)) hc hs hL
  show H1[gx_b E + a]? = some (vp_cell (gx_cT E 1) (n, .inl (upd g i.toNatClampNeg (vp_nar .byte x))))
  rw [e1]
  rw [vp_cell_i, vp_cell_i, arrV_store]
  congr 2
  funext q
  by_cases hq : q = i.toNatClampNeg
  · subst hq
    simp [updV, upd, vp_nar]
    try rfl
  · simp [updV, upd, hq]
theorem gx_zast {a : Nat} {i x : Int32} {f : gx_H → Option (ρ × gx_H)} (hd : decode cc pc = .ok (.bastore, 1)) (kk : ∀ h1, gx_G E own cc nL rt ini d bc bs (pc + 1) L st h1 em (f h1)) : gx_G E own cc nL rt ini d bc bs pc L (.int x :: .int i :: .ref a :: st) h em ((gx_sI 2 h a i (vp_nar .boolean x)).bind f) := by
  refine gx_bind fun h1 hx => ?_
  obtain ⟨n, g, g1, g2, rfl⟩ := gx_sI_of hx
  intro r h' ho p e R s m args below meth c Q F hR H locs cells slots ls hP hS hc hs hL
  have hlt := hP.lt (gx_nj g1)
  have hcell : H[gx_b E + a]? = some (vp_cell (gx_cT E 2) (n, .inl g)) := by
    have := hP.2.1 a hlt
    rw [g1] at this
    exact this
  refine W.zast F.1 F.2.1 hcell ((F.2.2.2.2.2.1.1.2 2 _ rfl).1 n (fun j => .int (g j))) (fun q => by cases q) (by show ¬ (i < 0 ∨ (arrV _ _ _).slots.size ≤ _); rw [arrV_size]; exact g2) rfl rfl hd fun H1 e1 z oq => ?_
  refine kk _ r h' ho p e R s m args below meth c Q F hR H1 _ cells slots ls (hP.set hlt z oq ?_) (hS.put z oq (Nat.le_add_right _ _)) hc hs hL
  show H1[gx_b E + a]? = some (vp_cell (gx_cT E 2) (n, .inl (upd g i.toNatClampNeg (vp_nar .boolean x))))
  rw [e1]
  rw [vp_cell_i, vp_cell_i, arrV_store]
  congr 2
  funext q
  by_cases hq : q = i.toNatClampNeg
  · subst hq
    simp [updV, upd, vp_nar]
    try rfl
  · simp [updV, upd, hq]
theorem gx_aald3 {a : Nat} {i : Int32} {f : Nat → Option (ρ × gx_H)} (hd : decode cc pc = .ok (.aaload, 1)) (kk : ∀ x, gx_G E own cc nL rt ini d bc bs (pc + 1) L (.ref x :: st) h em (f x)) : gx_G E own cc nL rt ini d bc bs pc L (.int i :: .ref a :: st) h em ((gx_aR 3 h a i).bind f) := by
  refine gx_bind fun x hx => ?_
  obtain ⟨n, g, g1, g2, g3⟩ := gx_aR_of hx
  intro r h' ho p e R s m args below meth c Q F hR H locs cells slots ls hP hS hc hs hL
  refine va_aldq (C := RX8) F.1 F.2.1 F.2.2.2.2.2.1.1 (hP.one (hP.lt (gx_nj g1)) g1) 0 3 rfl rfl g2 hd ?_
  rw [g3]
  exact kk x r h' ho p e R s m args below meth c Q F hR H locs cells slots ls hP hS hc hs hL
theorem gx_aast3 {a v : Nat} {i : Int32} {f : gx_H → Option (ρ × gx_H)} (hd : decode cc pc = .ok (.aastore, 1)) (kk : ∀ h1, gx_G E own cc nL rt ini d bc bs (pc + 1) L st h1 em (f h1)) : gx_G E own cc nL rt ini d bc bs pc L (.ref v :: .int i :: .ref a :: st) h em ((gx_isO h v 6).bind fun _ => (gx_sR 3 h a i v).bind f) := by
  intro r h' ho
  obtain ⟨-, fs, hv⟩ := gx_isO_of ho
  obtain ⟨u, -, ho⟩ := Option.bind_eq_some_iff.mp ho
  obtain ⟨h1, hx, ho⟩ := Option.bind_eq_some_iff.mp ho
  obtain ⟨n, g, g1, g2, rfl⟩ := gx_sR_of hx
  intro p e R s m args below meth c Q F hR H locs cells slots ls hP hS hc hs hL
  have hlt := hP.lt (gx_nj g1)
  have hvlt : v < h.1 := hP.lt (fun q => by rw [hv] at q; cases q)
  have hlt2 : i.toNatClampNeg < n := Nat.not_le.mp fun q => g2 (Or.inr q)
  have h0 : ¬ i < 0 := fun q => g2 (Or.inl q)
  have hcell : H[gx_b E + a]? = some (vp_cell (gx_cT E 3) (n, gx_ar (gx_b E) (.inr (.inr (.inr (.inr g)))))) := by
    have := hP.2.1 a hlt
    rw [g1] at this
    exact this
  have hat := hP.2.1 v hvlt
  rw [hv] at hat
  obtain ⟨r', hr', cellV, c1, c2, c3, -⟩ := hat
  have hK := F.2.2.2.2.2.1.1
  have hcls := (hK.1 6 _ rfl).2
  obtain ⟨kA, comp, k1, k2, k3, -⟩ := (hK.2 3 _ rfl).2
  have hcomp : comp = (gx_D E).1 6 := Option.some.inj (k3.symm.trans hcls.1)
  subst hcomp
  obtain ⟨kC, hkC, -⟩ := hcls.2
  refine W.aast F.1 F.2.1 hcell (fun q h => by cases h) (fun h => by cases h) k1 k2 rfl hkC ⟨h0, by show _ < (arrV _ _ _).slots.size; rw [arrV_size]; exact hlt2⟩ c1 (fun q h => by rw [c3] at h; cases h) (by rw [c2]; exact hkC) (by rw [c2]; exact va_assign hcls) rfl rfl hd fun H1 e1 z oq => ?_
  refine kk _ r h' ho p e R s m args below meth c Q F hR H1 _ cells slots ls (hP.set hlt z oq ?_) (hS.put z oq (Nat.le_add_right _ _)) hc hs hL
  show H1[gx_b E + a]? = some (vp_cell (gx_cT E 3) (n, .inr (.inr (.inr (.inr (fun j => (va_up g i.toNatClampNeg (some v) j).map (fun k => gx_b E + k)))))))
  rw [e1]
  show some ((vp_cell (gx_cT E 3) (n, .inr (.inr (.inr (.inr (fun j => (g j).map (fun k => gx_b E + k))))))).setSlot _ _) = _
  rw [vp_cell_q, vp_cell_q, arrV_store]
  congr 2
  funext q
  by_cases hq : q = i.toNatClampNeg
  · subst hq
    simp [updV, va_up, va_rf]
  · simp [updV, va_up, hq]
theorem gx_aald4 {a : Nat} {i : Int32} {f : Nat → Option (ρ × gx_H)} (hd : decode cc pc = .ok (.aaload, 1)) (kk : ∀ x, gx_G E own cc nL rt ini d bc bs (pc + 1) L (.ref x :: st) h em (f x)) : gx_G E own cc nL rt ini d bc bs pc L (.int i :: .ref a :: st) h em ((gx_aR 4 h a i).bind f) := by
  refine gx_bind fun x hx => ?_
  obtain ⟨n, g, g1, g2, g3⟩ := gx_aR_of hx
  intro r h' ho p e R s m args below meth c Q F hR H locs cells slots ls hP hS hc hs hL
  refine va_aldq (C := RX1) F.1 F.2.1 F.2.2.2.2.2.1.1 (hP.one (hP.lt (gx_nj g1)) g1) 0 4 rfl rfl g2 hd ?_
  rw [g3]
  exact kk x r h' ho p e R s m args below meth c Q F hR H locs cells slots ls hP hS hc hs hL
theorem gx_aast4 {a v : Nat} {i : Int32} {f : gx_H → Option (ρ × gx_H)} (hd : decode cc pc = .ok (.aastore, 1)) (kk : ∀ h1, gx_G E own cc nL rt ini d bc bs (pc + 1) L st h1 em (f h1)) : gx_G E own cc nL rt ini d bc bs pc L (.ref v :: .int i :: .ref a :: st) h em ((gx_isO h v 1).bind fun _ => (gx_sR 4 h a i v).bind f) := by
  intro r h' ho
  obtain ⟨-, fs, hv⟩ := gx_isO_of ho
  obtain ⟨u, -, ho⟩ := Option.bind_eq_some_iff.mp ho
  obtain ⟨h1, hx, ho⟩ := Option.bind_eq_some_iff.mp ho
  obtain ⟨n, g, g1, g2, rfl⟩ := gx_sR_of hx
  intro p e R s m args below meth c Q F hR H locs cells slots ls hP hS hc hs hL
  have hlt := hP.lt (gx_nj g1)
  have hvlt : v < h.1 := hP.lt (fun q => by rw [hv] at q; cases q)
  have hlt2 : i.toNatClampNeg < n := Nat.not_le.mp fun q => g2 (Or.inr q)
  have h0 : ¬ i < 0 := fun q => g2 (Or.inl q)
  have hcell : H[gx_b E + a]? = some (vp_cell (gx_cT E 4) (n, gx_ar (gx_b E) (.inr (.inr (.inr (.inr g)))))) := by
    have := hP.2.1 a hlt
    rw [g1] at this
    exact this
  have hat := hP.2.1 v hvlt
  rw [hv] at hat
  obtain ⟨r', hr', cellV, c1, c2, c3, -⟩ := hat
  have hK := F.2.2.2.2.2.1.1
  have hcls := (hK.1 1 _ rfl).2
  obtain ⟨kA, comp, k1, k2, k3, -⟩ := (hK.2 4 _ rfl).2
  have hcomp : comp = (gx_D E).1 1 := Option.some.inj (k3.symm.trans hcls.1)
  subst hcomp
  obtain ⟨kC, hkC, -⟩ := hcls.2
  refine W.aast F.1 F.2.1 hcell (fun q h => by cases h) (fun h => by cases h) k1 k2 rfl hkC ⟨h0, by show _ < (arrV _ _ _).slots.size; rw [arrV_size]; exact hlt2⟩ c1 (fun q h => by rw [c3] at h; cases h) (by rw [c2]; exact hkC) (by rw [c2]; exact va_assign hcls) rfl rfl hd fun H1 e1 z oq => ?_
  refine kk _ r h' ho p e R s m args below meth c Q F hR H1 _ cells slots ls (hP.set hlt z oq ?_) (hS.put z oq (Nat.le_add_right _ _)) hc hs hL
  show H1[gx_b E + a]? = some (vp_cell (gx_cT E 4) (n, .inr (.inr (.inr (.inr (fun j => (va_up g i.toNatClampNeg (some v) j).map (fun k => gx_b E + k)))))))
  rw [e1]
  show some ((vp_cell (gx_cT E 4) (n, .inr (.inr (.inr (.inr (fun j => (g j).map (fun k => gx_b E + k))))))).setSlot _ _) = _
  rw [vp_cell_q, vp_cell_q, arrV_store]
  congr 2
  funext q
  by_cases hq : q = i.toNatClampNeg
  · subst hq
    simp [updV, va_up, va_rf]
  · simp [updV, va_up, hq]
theorem gx_alen {a : Nat} {f : Int32 → Option (ρ × gx_H)} (hd : decode cc pc = .ok (.arraylength, 1)) (kk : ∀ x, gx_G E own cc nL rt ini d bc bs (pc + 1) L (.int x :: st) h em (f x)) : gx_G E own cc nL rt ini d bc bs pc L (.ref a :: st) h em ((gx_al h a).bind f) := by
  refine gx_bind fun x hx => ?_
  unfold gx_al at hx
  split at hx
  · rename_i y g1
    split at hx
    · rename_i hlt5
      cases hx
      intro r h' ho p e R s m args below meth c Q F hR H locs cells slots ls hP hS hc hs hL
      obtain ⟨ty, hty⟩ : ∃ ty, (gx_tys E)[y.1]? = some (gx_cT E y.1, ty) := by
        rcases (show y.1 = 0 ∨ y.1 = 1 ∨ y.1 = 2 ∨ y.1 = 3 ∨ y.1 = 4 by omega) with e | e | e | e | e <;> rw [e] <;> exact ⟨_, rfl⟩
      exact va_alen F.1 F.2.1 F.2.2.2.2.2.1.1 (hP.one (hP.lt (gx_nj g1)) g1) 0 y.1 rfl hty rfl hd (kk _ r h' ho p e R s m args below meth c Q F hR H locs cells slots ls hP hS hc hs hL)
    · cases hx
  · cases hx
theorem gx_newO {idx ci N : Nat} {fs : List Value} (hC : gx_Cls own idx ci N fs) (hv : fs.map (gx_v E) = fs) (hd : decode cc pc = .ok (.new idx, 3)) (kk : gx_G E own cc nL rt ini d bc bs (pc + 3) L (.ref h.1 :: st) (gx_new (.inr (ci, fs)) h) em o) : gx_G E own cc nL rt ini d (bc + 1) (bs + N) pc L st h em o := by
  intro r h' ho p e R s m args below meth c Q F hR H locs cells slots ls hP hS hc hs hL
  obtain ⟨C, T, ty, c1, c2, c3, c4, c5, c6, c7⟩ := hC
  have hts := F.2.2.2.2.1
  have hKn := F.2.2.2.2.2.1.1.1 ci _ c1
  refine W.newcK F.1 F.2.1 F.2.2.2.1 (hts _ c4) (hts _ c5) (hts _ c6) rfl hd (by omega) (by omega) hKn.2.1 hP.1 fun H1 kC hkC e1 z1 o1 => ?_
  have hz : H1.size = H.size + 1 := by rw [z1, hP.1]
  have ho1 : ∀ q, q < H.size → H1[q]? = H[q]? := fun q hq => o1 q (by rw [← hP.1]; exact hq)
  refine kk r h' ho p e R s m args below meth c Q F hR H1 locs (cells + 1) (slots + N) ls (hP.push hz ho1 ⟨_, c1, ?_⟩) ⟨Nat.le_trans hS.1 (by omega), fun x h1 h2 => (ho1 x (Nat.lt_of_lt_of_le h1 hS.1)).trans (hS.2.1 x h1 h2), hS.2.2⟩ (by omega) (by omega) hL
  show t_OB H.size _ _ _ H1 (vp_V (fs.map (gx_v E)))
  rw [hv]
  rw [← hP.1] at e1
  exact (u_born ty hts c2 hKn hkC e1 c3).to c7
theorem gx_newA0 {n : Int32} (N : Nat) (hw : Cond.arrayClass .int ∈ gx_tbl) (hd : decode cc pc = .ok (.newarray .int, 2)) (hn : ¬ n < 0) (hN : n.toNatClampNeg = N) (hb : N ≤ 10000) (kk : gx_G E own cc nL rt ini d bc bs (pc + 2) L (.ref h.1 :: st) (gx_new (.inl (0, N, .inl (fun _ => 0))) h) em o) : gx_G E own cc nL rt ini d (bc + 1) (bs + N) pc L (.int n :: st) h em o := by
  intro r h' ho p e R s m args below meth c Q F hR H locs cells slots ls hP hS hc hs hL
  have hb' : N * componentBytes .int ≤ 536870912 := by
    have : componentBytes .int ≤ 4 := by decide
    calc N * componentBytes .int ≤ 10000 * 4 := Nat.mul_le_mul hb this
      _ ≤ 536870912 := by decide
  refine va_newaK (atype := .int) F.1 F.2.1 (F.2.2.2.2.1 _ hw) rfl hd rfl hn hN hb' (by omega) (by omega) hP.1 fun H1 cA e1 z1 o1 hAr hNm => ?_
  have hz : H1.size = H.size + 1 := by rw [z1, hP.1]
  have ho1 : ∀ q, q < H.size → H1[q]? = H[q]? := fun q hq => o1 q (by rw [← hP.1]; exact hq)
  have hcA : cA = gx_cT E 0 := Option.some.inj (hNm.symm.trans (F.2.2.2.2.2.1.1.2 0 _ rfl).2)
  subst hcA
  refine kk r h' ho p e R s m args below meth c Q F hR H1 locs (cells + 1) (slots + N) ls (hP.push hz ho1 ?_) ⟨Nat.le_trans hS.1 (by omega), fun x h1 h2 => (ho1 x (Nat.lt_of_lt_of_le h1 hS.1)).trans (hS.2.1 x h1 h2), hS.2.2⟩ (by omega) (by omega) hL
  show H1[H.size]? = some (vp_cell (gx_cT E 0) (N, .inl (fun _ => 0)))
  rw [hP.1, e1]
  rfl
theorem gx_newA1 {n : Int32} (N : Nat) (hw : Cond.arrayClass .byte ∈ gx_tbl) (hd : decode cc pc = .ok (.newarray .byte, 2)) (hn : ¬ n < 0) (hN : n.toNatClampNeg = N) (hb : N ≤ 10000) (kk : gx_G E own cc nL rt ini d bc bs (pc + 2) L (.ref h.1 :: st) (gx_new (.inl (1, N, .inl (fun _ => 0))) h) em o) : gx_G E own cc nL rt ini d (bc + 1) (bs + N) pc L (.int n :: st) h em o := by
  intro r h' ho p e R s m args below meth c Q F hR H locs cells slots ls hP hS hc hs hL
  have hb' : N * componentBytes .byte ≤ 536870912 := by
    have : componentBytes .byte ≤ 4 := by decide
    calc N * componentBytes .byte ≤ 10000 * 4 := Nat.mul_le_mul hb this
      _ ≤ 536870912 := by decide
  refine va_newaK (atype := .byte) F.1 F.2.1 (F.2.2.2.2.1 _ hw) rfl hd rfl hn hN hb' (by omega) (by omega) hP.1 fun H1 cA e1 z1 o1 hAr hNm => ?_
  have hz : H1.size = H.size + 1 := by rw [z1, hP.1]
  have ho1 : ∀ q, q < H.size → H1[q]? = H[q]? := fun q hq => o1 q (by rw [← hP.1]; exact hq)
  have hcA : cA = gx_cT E 1 := Option.some.inj (hNm.symm.trans (F.2.2.2.2.2.1.1.2 1 _ rfl).2)
  subst hcA
  refine kk r h' ho p e R s m args below meth c Q F hR H1 locs (cells + 1) (slots + N) ls (hP.push hz ho1 ?_) ⟨Nat.le_trans hS.1 (by omega), fun x h1 h2 => (ho1 x (Nat.lt_of_lt_of_le h1 hS.1)).trans (hS.2.1 x h1 h2), hS.2.2⟩ (by omega) (by omega) hL
  show H1[H.size]? = some (vp_cell (gx_cT E 1) (N, .inl (fun _ => 0)))
  rw [hP.1, e1]
  rfl
theorem gx_newA2 {n : Int32} (N : Nat) (hw : Cond.arrayClass .boolean ∈ gx_tbl) (hd : decode cc pc = .ok (.newarray .boolean, 2)) (hn : ¬ n < 0) (hN : n.toNatClampNeg = N) (hb : N ≤ 10000) (kk : gx_G E own cc nL rt ini d bc bs (pc + 2) L (.ref h.1 :: st) (gx_new (.inl (2, N, .inl (fun _ => 0))) h) em o) : gx_G E own cc nL rt ini d (bc + 1) (bs + N) pc L (.int n :: st) h em o := by
  intro r h' ho p e R s m args below meth c Q F hR H locs cells slots ls hP hS hc hs hL
  have hb' : N * componentBytes .boolean ≤ 536870912 := by
    have : componentBytes .boolean ≤ 4 := by decide
    calc N * componentBytes .boolean ≤ 10000 * 4 := Nat.mul_le_mul hb this
      _ ≤ 536870912 := by decide
  refine va_newaK (atype := .boolean) F.1 F.2.1 (F.2.2.2.2.1 _ hw) rfl hd rfl hn hN hb' (by omega) (by omega) hP.1 fun H1 cA e1 z1 o1 hAr hNm => ?_
  have hz : H1.size = H.size + 1 := by rw [z1, hP.1]
  have ho1 : ∀ q, q < H.size → H1[q]? = H[q]? := fun q hq => o1 q (by rw [← hP.1]; exact hq)
  have hcA : cA = gx_cT E 2 := Option.some.inj (hNm.symm.trans (F.2.2.2.2.2.1.1.2 2 _ rfl).2)
  subst hcA
  refine kk r h' ho p e R s m args below meth c Q F hR H1 locs (cells + 1) (slots + N) ls (hP.push hz ho1 ?_) ⟨Nat.le_trans hS.1 (by omega), fun x h1 h2 => (ho1 x (Nat.lt_of_lt_of_le h1 hS.1)).trans (hS.2.1 x h1 h2), hS.2.2⟩ (by omega) (by omega) hL
  show H1[H.size]? = some (vp_cell (gx_cT E 2) (N, .inl (fun _ => 0)))
  rw [hP.1, e1]
  rfl
theorem gx_newR3 {idx : Nat} {n : Int32} {f : gx_H → Option (ρ × gx_H)} (B : Nat) (hw : Cond.classLink own idx RX8 ∈ gx_tbl) (hd : decode cc pc = .ok (.anewarray idx, 3)) (hB : B ≤ 1000) (kk : gx_G E own cc nL rt ini d bc bs (pc + 3) L (.ref h.1 :: st) (gx_new (.inl (3, n.toNatClampNeg, .inr (.inr (.inr (.inr (fun _ => none)))))) h) em o) : gx_G E own cc nL rt ini d (bc + 1) (bs + B) pc L (.int n :: st) h em (if n < 0 ∨ B < n.toNatClampNeg then none else o) := by
  intro r h' ho
  split at ho
  · cases ho
  rename_i hnb
  have hn : ¬ n < 0 := fun q => hnb (Or.inl q)
  have hnB : n.toNatClampNeg ≤ B := Nat.not_lt.mp fun q => hnb (Or.inr q)
  intro p e R s m args below meth c Q F hR H locs cells slots ls hP hS hc hs hL
  refine W.anew F.1 F.2.1 F.2.2.2.1 (F.2.2.2.2.1 _ hw) (va_AO.use F.2.2.2.2.2.1.2.2.1) rfl hd rfl hn (by omega) (by omega) (by omega) fun cA kA comp f1 f2 f3 f4 => ?_
  generalize hH1 : H.push ({ cls := cA, slots := Array.replicate n.toNatClampNeg .null, vm := .none } : Cell) = H1
  have hz : H1.size = H.size + 1 := by rw [← hH1, Array.size_push]
  have e1 : H1[H.size]? = some (arrV cA n.toNatClampNeg (fun _ => .null)) := by rw [← hH1, Array.getElem?_push_size, ← arrV_new]
  have ho1 : ∀ q, q < H.size → H1[q]? = H[q]? := fun q hq => by rw [← hH1, Array.getElem?_push, if_neg (Nat.ne_of_lt hq)]
  obtain ⟨kA', comp', k1, k2, k3, k4⟩ := (F.2.2.2.2.2.1.1.2 3 _ rfl).2
  have hcA : cA = gx_cT E 3 := Option.some.inj (f1.symm.trans k4)
  subst hcA
  refine W.widen (k := cells + 1) (n := slots + B) (Nat.le_refl _) (by omega) ?_
  rw [show (F0 m pc ls (Value.int n :: st.map (gx_v E))).pc = pc from rfl, hP.1]
  refine kk r h' ho p e R s m args below meth c Q F hR H1 locs (cells + 1) (slots + B) ls (hP.push hz ho1 ?_) ⟨Nat.le_trans hS.1 (by omega), fun x h1 h2 => (ho1 x (Nat.lt_of_lt_of_le h1 hS.1)).trans (hS.2.1 x h1 h2), hS.2.2⟩ (by omega) (by omega) hL
  show H1[H.size]? = some (vp_cell (gx_cT E 3) (n.toNatClampNeg, .inr (.inr (.inr (.inr (fun _ => none))))))
  rw [e1]
  rfl
theorem gx_newR4 {idx : Nat} {n : Int32} {f : gx_H → Option (ρ × gx_H)} (B : Nat) (hw : Cond.classLink own idx RX1 ∈ gx_tbl) (hd : decode cc pc = .ok (.anewarray idx, 3)) (hB : B ≤ 1000) (kk : gx_G E own cc nL rt ini d bc bs (pc + 3) L (.ref h.1 :: st) (gx_new (.inl (4, n.toNatClampNeg, .inr (.inr (.inr (.inr (fun _ => none)))))) h) em o) : gx_G E own cc nL rt ini d (bc + 1) (bs + B) pc L (.int n :: st) h em (if n < 0 ∨ B < n.toNatClampNeg then none else o) := by
  intro r h' ho
  split at ho
  · cases ho
  rename_i hnb
  have hn : ¬ n < 0 := fun q => hnb (Or.inl q)
  have hnB : n.toNatClampNeg ≤ B := Nat.not_lt.mp fun q => hnb (Or.inr q)
  intro p e R s m args below meth c Q F hR H locs cells slots ls hP hS hc hs hL
  refine W.anew F.1 F.2.1 F.2.2.2.1 (F.2.2.2.2.1 _ hw) (va_AO.use F.2.2.2.2.2.1.2.2.2.1) rfl hd rfl hn (by omega) (by omega) (by omega) fun cA kA comp f1 f2 f3 f4 => ?_
  generalize hH1 : H.push ({ cls := cA, slots := Array.replicate n.toNatClampNeg .null, vm := .none } : Cell) = H1
  have hz : H1.size = H.size + 1 := by rw [← hH1, Array.size_push]
  have e1 : H1[H.size]? = some (arrV cA n.toNatClampNeg (fun _ => .null)) := by rw [← hH1, Array.getElem?_push_size, ← arrV_new]
  have ho1 : ∀ q, q < H.size → H1[q]? = H[q]? := fun q hq => by rw [← hH1, Array.getElem?_push, if_neg (Nat.ne_of_lt hq)]
  obtain ⟨kA', comp', k1, k2, k3, k4⟩ := (F.2.2.2.2.2.1.1.2 4 _ rfl).2
  have hcA : cA = gx_cT E 4 := Option.some.inj (f1.symm.trans k4)
  subst hcA
  refine W.widen (k := cells + 1) (n := slots + B) (Nat.le_refl _) (by omega) ?_
  rw [show (F0 m pc ls (Value.int n :: st.map (gx_v E))).pc = pc from rfl, hP.1]
  refine kk r h' ho p e R s m args below meth c Q F hR H1 locs (cells + 1) (slots + B) ls (hP.push hz ho1 ?_) ⟨Nat.le_trans hS.1 (by omega), fun x h1 h2 => (ho1 x (Nat.lt_of_lt_of_le h1 hS.1)).trans (hS.2.1 x h1 h2), hS.2.2⟩ (by omega) (by omega) hL
  show H1[H.size]? = some (vp_cell (gx_cT E 4) (n.toNatClampNeg, .inr (.inr (.inr (.inr (fun _ => none))))))
  rw [e1]
  rfl
end GXA
end
section
/-! calls -/
def gx_N : Nat := 20000
def gx_let {α β : Type} (a : α) (f : α → β) : β := f a
def gx_bd {α β : Type} (a : Option (α × gx_H)) (f : α → gx_H → Option β) : Option β := a.bind (fun q => f q.1 q.2)
def gx_M (E : gx_Env) (y : MethodName) (cy : ByteArray) (ny : Nat) (rt : Option FieldType) (d mc ms : Nat) (As : List Value) (h : gx_H) (v : Option Value) (h' : gx_H) : Prop :=
  Met (gx_l E) y (Cond.code y cy ny rt :: gx_tbl) ({ frames := d, cells := mc, slots := ms, locals := 64 * d } : Room) (va_Pc (As.map (gx_v E)) (fun U => gx_P E h U.heap ∧ gx_ok E U U.heap ∧ gx_b E ≤ U.heap.size)) (fun _ s0 oc t => oc = .returned (v.map (gx_v E)) ∧ gx_P E h' t.heap ∧ va_F (gx_A E) s0 t) mc ms (gx_A E)
def gx_Mt (y : MethodName) (cy : ByteArray) (ny : Nat) (rt : Option FieldType) (n : Nat) : Prop := Cond.code y cy ny rt ∈ gx_tbl ∧ Cond.initialized y.cls ∈ gx_tbl ∧ (y.cls ≠ "java/lang/invoke/MethodHandle" ∧ y.cls ≠ "java/lang/invoke/VarHandle" ∧ (parseMethodDescriptor y.desc).map (fun d => d.parameters.length) = some n) ∧ ny ≤ 45
def gx_MS (own : String) (idx : Nat) (y : MethodName) (cy : ByteArray) (ny : Nat) (rt : Option FieldType) (n : Nat) : Prop := gx_Mt y cy ny rt n ∧ Cond.methodLink own idx y ∈ gx_tbl ∧ Cond.static y ∈ gx_tbl
def gx_MV (own : String) (idx : Nat) (y : MethodName) (cy : ByteArray) (ny : Nat) (rt : Option FieldType) (n : Nat) : Prop := gx_Mt y cy ny rt n ∧ Cond.methodLink own idx y ∈ gx_tbl ∧ Cond.instanceMethod y ∈ gx_tbl ∧ Cond.selects y.cls y y ∈ gx_tbl
def gx_MSN (own : String) (idx : Nat) (y : MethodName) (cy : ByteArray) (ny : Nat) (rt : Option FieldType) (n : Nat) : Prop := gx_Mt y cy ny rt n ∧ (own, idx, y) ∈ gx_nest ∧ Cond.static y ∈ gx_tbl
def gx_MI (own : String) (idx : Nat) (y : MethodName) (cy : ByteArray) (ny : Nat) (n : Nat) : Prop := gx_Mt y cy ny none n ∧ Cond.methodLink own idx y ∈ gx_tbl ∧ Cond.instanceMethod y ∈ gx_tbl ∧ y.name = "<init>"
def gx_MIN (own : String) (idx : Nat) (y : MethodName) (cy : ByteArray) (ny : Nat) (n : Nat) : Prop := gx_Mt y cy ny none n ∧ (own, idx, y) ∈ gx_nest ∧ Cond.instanceMethod y ∈ gx_tbl ∧ y.name = "<init>"
theorem gx_blind {E : gx_Env} {h : gx_H} {As : List Value} : FrameBlind (va_Pc As (fun U => gx_P E h U.heap ∧ gx_ok E U U.heap ∧ gx_b E ≤ U.heap.size)) := fun a U g mk q => ⟨q.1, q.2.1, gx_ok.same (s := U) rfl q.2.2.1, q.2.2.2⟩
section GXC
variable {E : gx_Env} {own : String} {cc : ByteArray} {nL : Nat} {rt : Option FieldType} {ini : Bool} {d bc bs pc : Nat} {L : List (Option Value)} {st : List Value} {h : gx_H} {ρ : Type} {em : ρ → Option Value} {o o1 o2 : Option (ρ × gx_H)}
/-- behind a call -/
theorem gx_cont {ρ' : Type} {y : MethodName} {As : List Value} {mc ms : Nat} {v : Option Value} {h1 : gx_H} {p : Program} {e : Env} {R : Room} {s : State} {m : MethodId} {args : Array Value} {below : List Frame} {meth : Method} {c : Code} {Q : State → Prop} {H : Heap} {locs : List Loc} {cells slots : Nat} {ls : Array Slot} {st0 : List Value}
    (hr : va_Run p (gx_l E) e R s m args below meth c H locs cells slots mc ms (F0 m pc ls st0) (st.map (gx_v E)) (fun (s0 : State) (oc : Outcome) (t : State) => oc = .returned (v.map (gx_v E)) ∧ gx_P E h1 t.heap ∧ va_F (gx_A E) s0 t) (gx_A E)) (hS : va_S (gx_A E) s.heap H locs)
    (kk : ∀ (H1 : Heap) (locs1 : List Loc), gx_P E h1 H1 → va_S (gx_A E) s.heap H1 locs1 → W p (gx_l E) e R s m args below meth c H1 locs1 (cells + mc) (slots + ms) Q (F0 m (pc + 3) ls ((v.toList ++ st).map (gx_v E)))) : W p (gx_l E) e R s m args below meth c H locs cells slots Q (F0 m pc ls st0) := by
  intro T hT X
  obtain ⟨v', st₀, t, T', L', h0, X', hL', e1, e2, ⟨hv, hP', hz, hk⟩, stp⟩ := hr T hT X
  rw [h0] at hz hk
  have hv' : v' = v.map (gx_v E) := by cases hv; rfl
  subst hv'
  obtain ⟨t2, a1, b1⟩ := kk T'.heap (locs ++ L') (by rw [e1]; exact hP')
    ⟨Nat.le_trans hS.1 (by rw [e1]; exact hz), fun q h1 h2 => by rw [e1, hk q (Nat.lt_of_lt_of_le h1 hS.1) h2]; exact hS.2.1 q h1 h2, fun q hq => by
      rcases List.mem_append.mp hq with h | h
      · exact hS.2.2 q h
      · exact hL' q h⟩ T' rfl X'
  refine ⟨t2, stp t2 ?_, b1⟩
  have e : (v.toList ++ st).map (gx_v E) = (v.map (gx_v E)).toList ++ st.map (gx_v E) := by cases v <;> simp
  rw [e] at a1
  exact a1
theorem gx_upre {s : State} {H : Heap} {locs : List Loc} (hok : gx_ok E s s.heap) (hb : gx_b E ≤ s.heap.size) (hP : gx_P E h H) (hS : va_S (gx_A E) s.heap H locs) : ∀ U : State, U.heap = H → s.WarmedH U.vm → gx_P E h U.heap ∧ gx_ok E U U.heap ∧ gx_b E ≤ U.heap.size := by
  intro U hU hW
  rw [hU]
  exact ⟨hP, (hok.kept hb hS.2.1).warm hW, Nat.le_trans hb hS.1⟩
theorem gx_rm (hE : gx_fm E) (hst : (st.map fun v => v.category).sum ≤ 8) : ((st.map (gx_v E)).map fun v => v.category).sum ≤ 8 := by
  have e : (st.map (gx_v E)).map (fun v => v.category) = st.map (fun v => v.category) := by
    rw [List.map_map]
    refine List.map_congr_left fun v _ => ?_
    show (gx_v E v).category = v.category
    rcases lv_cat v with q | q
    · rw [q]; exact gx_c1 hE q
    · cases v <;> first | rfl | (simp [Value.category] at q)
  rw [e]
  exact hst
theorem gx_callS {idx n mc ms : Nat} {y : MethodName} {cy : ByteArray} {ny : Nat} {ρ' : Type} {em' : ρ' → Option Value} {f : Option (ρ' × gx_H)} {g : ρ' → gx_H → Option (ρ × gx_H)} {ry : Option FieldType} (As : List Value) (hw : gx_MS own idx y cy ny ry n) (hd : decode cc pc = .ok (.invokestatic idx, 3)) {st0 : List Value} (hst0 : st0 = As.reverse ++ st) (hn : As.length = n) (hst : (st.map fun v => v.category).sum ≤ 8)
    (hM : ∀ r h1, f = some (r, h1) → gx_M E y cy ny ry d mc ms As h (em' r) h1) (kk : ∀ (r : ρ') (h1 : gx_H), gx_G E own cc nL rt ini (d + 1) bc bs (pc + 3) L ((em' r).toList ++ st) h1 em (g r h1)) : gx_G E own cc nL rt ini (d + 1) (bc + mc) (bs + ms) pc L st0 h em (gx_bd f g) := by
  subst hst0
  unfold gx_bd
  refine gx_bind fun rh hf => ?_
  obtain ⟨r1, h1⟩ := rh
  intro r h' ho p e R s m args below meth c Q F hR H locs cells slots ls hP hS hc hs hL
  have hts := F.2.2.2.2.1
  have hok := F.2.2.2.2.2.1
  have hfr := F.2.2.2.2.2.2.1
  obtain ⟨⟨w1, w2, w3, w4⟩, w5, w6⟩ := hw
  refine gx_cont (ρ' := ρ') (y := y) (As := As) (v := em' r1) (h1 := h1) (va_runS (As := As.map (gx_v E)) (rest := st.map (gx_v E)) ⟨F.1, F.2.1, F.2.2.1, F.2.2.2.1, hts⟩ (hM r1 h1 hf) ⟨callB_of n hts (gx_good w1) rfl rfl rfl (hts _ w2) (hts _ w5) w3 ⟨hfr.1, by show 8 + (ny + 11) + 64 * d ≤ R.locals; omega⟩, hts _ w6⟩ ⟨gx_blind, fun U hU hW => ⟨rfl, gx_upre hok F.2.2.2.2.2.2.2.2 hP hS U hU hW⟩⟩ rfl (by rw [List.length_map]; exact hn) hL.2.1 (by show (As.reverse ++ st).map (gx_v E) = _; rw [List.map_append, List.map_reverse]) (lv_room (gx_rm F.fm hst)) hd ⟨by omega, by omega⟩) hS (fun H1 locs1 hP1 hS1 => ?_)
  exact kk r1 h1 r h' ho p e R s m args below meth c Q F hR H1 locs1 (cells + mc) (slots + ms) ls hP1 hS1 (by omega) (by omega) hL
theorem gx_callSN {idx n mc ms : Nat} {y : MethodName} {cy : ByteArray} {ny : Nat} {ρ' : Type} {em' : ρ' → Option Value} {f : Option (ρ' × gx_H)} {g : ρ' → gx_H → Option (ρ × gx_H)} {ry : Option FieldType} (As : List Value) (hw : gx_MSN own idx y cy ny ry n) (hd : decode cc pc = .ok (.invokestatic idx, 3)) {st0 : List Value} (hst0 : st0 = As.reverse ++ st) (hn : As.length = n) (hst : (st.map fun v => v.category).sum ≤ 8)
    (hM : ∀ r h1, f = some (r, h1) → gx_M E y cy ny ry d mc ms As h (em' r) h1) (kk : ∀ (r : ρ') (h1 : gx_H), gx_G E own cc nL rt ini (d + 1) bc bs (pc + 3) L ((em' r).toList ++ st) h1 em (g r h1)) : gx_G E own cc nL rt ini (d + 1) (bc + mc) (bs + ms) pc L st0 h em (gx_bd f g) := by
  subst hst0
  unfold gx_bd
  refine gx_bind fun rh hf => ?_
  obtain ⟨r1, h1⟩ := rh
  intro r h' ho p e R s m args below meth c Q F hR H locs cells slots ls hP hS hc hs hL
  have hts := F.2.2.2.2.1
  have hok := F.2.2.2.2.2.1
  have hfr := F.2.2.2.2.2.2.1
  obtain ⟨⟨w1, w2, w3, w4⟩, w5, w6⟩ := hw
  refine gx_cont (ρ' := ρ') (y := y) (As := As) (v := em' r1) (h1 := h1) (va_runSN (As := As.map (gx_v E)) (rest := st.map (gx_v E)) ⟨F.1, F.2.1, F.2.2.1, F.2.2.2.1, hts⟩ (hM r1 h1 hf) ⟨va_cnB n hts (gx_good w1) rfl rfl rfl (hok.2.1 _ w5) (hts _ w2) w3 ⟨hfr.1, by show 8 + (ny + 11) + 64 * d ≤ R.locals; omega⟩, hts _ w6, trivial⟩ ⟨gx_blind, fun U hU hW => ⟨rfl, gx_upre hok F.2.2.2.2.2.2.2.2 hP hS U hU hW⟩⟩ rfl (by rw [List.length_map]; exact hn) hL.2.1 (by show (As.reverse ++ st).map (gx_v E) = _; rw [List.map_append, List.map_reverse]) (lv_room (gx_rm F.fm hst)) hd ⟨by omega, by omega⟩) hS (fun H1 locs1 hP1 hS1 => ?_)
  exact kk r1 h1 r h' ho p e R s m args below meth c Q F hR H1 locs1 (cells + mc) (slots + ms) ls hP1 hS1 (by omega) (by omega) hL
theorem gx_callV {idx n mc ms : Nat} {y : MethodName} {cy : ByteArray} {ny : Nat} {ρ' : Type} {em' : ρ' → Option Value} {f : Option (ρ' × gx_H)} {g : ρ' → gx_H → Option (ρ × gx_H)} {ry : Option FieldType} {a ci : Nat} (As : List Value) (hw : gx_MV own idx y cy ny ry n) (hcl : (vwCl[ci]?).map (fun q => q.1) = some y.cls) (hd : decode cc pc = .ok (.invokevirtual idx, 3)) {st0 : List Value} (hst0 : st0 = As.reverse ++ .ref a :: st) (hn : As.length = n) (hst : (st.map fun v => v.category).sum ≤ 8)
    (hrec : ∀ x, f = some x → ∃ fs, h.2 a = .inr (ci, fs)) (hM : ∀ r h1, f = some (r, h1) → gx_M E y cy ny ry d mc ms (.ref a :: As) h (em' r) h1) (kk : ∀ (r : ρ') (h1 : gx_H), gx_G E own cc nL rt ini (d + 1) bc bs (pc + 3) L ((em' r).toList ++ st) h1 em (g r h1)) : gx_G E own cc nL rt ini (d + 1) (bc + mc) (bs + ms) pc L st0 h em (gx_bd f g) := by
  subst hst0
  unfold gx_bd
  refine gx_bind fun rh hf => ?_
  obtain ⟨fs, hfs⟩ := hrec _ hf
  obtain ⟨r1, h1⟩ := rh
  intro r h' ho p e R s m args below meth c Q F hR H locs cells slots ls hP hS hc hs hL
  have hts := F.2.2.2.2.1
  have hok := F.2.2.2.2.2.1
  have hfr := F.2.2.2.2.2.2.1
  obtain ⟨⟨w1, w2, w3, w4⟩, w5, w6, w7⟩ := hw
  obtain ⟨q, hq, hqc⟩ := Option.map_eq_some_iff.mp hcl
  have hci : ci < 10 := (List.getElem?_eq_some_iff.mp hq).1
  have hlt : a < h.1 := hP.lt (fun z => by rw [hfs] at z; cases z; omega)
  have hrv := va_recv hok.1 (hP.one hlt hfs) hq (q0 := 0) rfl
  rw [hqc] at hrv
  refine gx_cont (ρ' := ρ') (y := y) (As := As) (v := em' r1) (h1 := h1) (va_runV (As := As.map (gx_v E)) (rest := st.map (gx_v E)) ⟨F.1, F.2.1, F.2.2.1, F.2.2.2.1, hts⟩ (hM r1 h1 hf) ⟨callB_of n hts (gx_good w1) rfl rfl rfl (hts _ w2) (hts _ w5) w3 ⟨hfr.1, by show 8 + (ny + 11) + 64 * d ≤ R.locals; omega⟩, hts _ w6, hts _ w7⟩ ⟨gx_blind, hrv, fun U hU hW => ⟨rfl, gx_upre hok F.2.2.2.2.2.2.2.2 hP hS U hU hW⟩⟩ rfl (by rw [List.length_map]; exact hn) hL.2.1 (by show (As.reverse ++ .ref a :: st).map (gx_v E) = _; rw [List.map_append, List.map_reverse]; rfl) (lv_room (gx_rm F.fm hst)) hd ⟨by omega, by omega⟩) hS (fun H1 locs1 hP1 hS1 => ?_)
  exact kk r1 h1 r h' ho p e R s m args below meth c Q F hR H1 locs1 (cells + mc) (slots + ms) ls hP1 hS1 (by omega) (by omega) hL
theorem gx_callI {idx n mc ms : Nat} {y : MethodName} {cy : ByteArray} {ny : Nat} {ρ' : Type} {em' : ρ' → Option Value} {f : Option (ρ' × gx_H)} {g : ρ' → gx_H → Option (ρ × gx_H)} {a : Nat} (As : List Value) (hw : gx_MI own idx y cy ny n) (hd : decode cc pc = .ok (.invokespecial idx, 3)) {st0 : List Value} (hst0 : st0 = As.reverse ++ .ref a :: st) (hn : As.length = n) (hst : (st.map fun v => v.category).sum ≤ 8)
    (hM : ∀ r h1, f = some (r, h1) → gx_M E y cy ny none d mc ms (.ref a :: As) h (em' r) h1) (kk : ∀ (r : ρ') (h1 : gx_H), gx_G E own cc nL rt ini (d + 1) bc bs (pc + 3) L ((em' r).toList ++ st) h1 em (g r h1)) : gx_G E own cc nL rt ini (d + 1) (bc + mc) (bs + ms) pc L st0 h em (gx_bd f g) := by
  subst hst0
  unfold gx_bd
  refine gx_bind fun rh hf => ?_
  obtain ⟨r1, h1⟩ := rh
  intro r h' ho p e R s m args below meth c Q F hR H locs cells slots ls hP hS hc hs hL
  have hts := F.2.2.2.2.1
  have hok := F.2.2.2.2.2.1
  have hfr := F.2.2.2.2.2.2.1
  obtain ⟨⟨w1, w2, w3, w4⟩, w5, w6, w7⟩ := hw
  refine gx_cont (ρ' := ρ') (y := y) (As := As) (v := em' r1) (h1 := h1) (va_runI (As := As.map (gx_v E)) (rest := st.map (gx_v E)) ⟨F.1, F.2.1, F.2.2.1, F.2.2.2.1, hts⟩ (hM r1 h1 hf) ⟨callB_of n hts (gx_good w1) rfl rfl rfl (hts _ w2) (hts _ w5) w3 ⟨hfr.1, by show 8 + (ny + 11) + 64 * d ≤ R.locals; omega⟩, w7, hts _ w6⟩ ⟨gx_blind, fun U hU hW => ⟨rfl, gx_upre hok F.2.2.2.2.2.2.2.2 hP hS U hU hW⟩⟩ rfl (by rw [List.length_map]; exact hn) hL.2.1 (by show (As.reverse ++ .ref a :: st).map (gx_v E) = _; rw [List.map_append, List.map_reverse]; rfl) (lv_room (gx_rm F.fm hst)) hd ⟨by omega, by omega⟩) hS (fun H1 locs1 hP1 hS1 => ?_)
  exact kk r1 h1 r h' ho p e R s m args below meth c Q F hR H1 locs1 (cells + mc) (slots + ms) ls hP1 hS1 (by omega) (by omega) hL
theorem gx_callIN {idx n mc ms : Nat} {y : MethodName} {cy : ByteArray} {ny : Nat} {ρ' : Type} {em' : ρ' → Option Value} {f : Option (ρ' × gx_H)} {g : ρ' → gx_H → Option (ρ × gx_H)} {a : Nat} (As : List Value) (hw : gx_MIN own idx y cy ny n) (hd : decode cc pc = .ok (.invokespecial idx, 3)) {st0 : List Value} (hst0 : st0 = As.reverse ++ .ref a :: st) (hn : As.length = n) (hst : (st.map fun v => v.category).sum ≤ 8)
    (hM : ∀ r h1, f = some (r, h1) → gx_M E y cy ny none d mc ms (.ref a :: As) h (em' r) h1) (kk : ∀ (r : ρ') (h1 : gx_H), gx_G E own cc nL rt ini (d + 1) bc bs (pc + 3) L ((em' r).toList ++ st) h1 em (g r h1)) : gx_G E own cc nL rt ini (d + 1) (bc + mc) (bs + ms) pc L st0 h em (gx_bd f g) := by
  subst hst0
  unfold gx_bd
  refine gx_bind fun rh hf => ?_
  obtain ⟨r1, h1⟩ := rh
  intro r h' ho p e R s m args below meth c Q F hR H locs cells slots ls hP hS hc hs hL
  have hts := F.2.2.2.2.1
  have hok := F.2.2.2.2.2.1
  have hfr := F.2.2.2.2.2.2.1
  obtain ⟨⟨w1, w2, w3, w4⟩, w5, w6, w7⟩ := hw
  refine gx_cont (ρ' := ρ') (y := y) (As := As) (v := em' r1) (h1 := h1) (va_runIN (As := As.map (gx_v E)) (rest := st.map (gx_v E)) ⟨F.1, F.2.1, F.2.2.1, F.2.2.2.1, hts⟩ (hM r1 h1 hf) ⟨va_cnB n hts (gx_good w1) rfl rfl rfl (hok.2.1 _ w5) (hts _ w2) w3 ⟨hfr.1, by show 8 + (ny + 11) + 64 * d ≤ R.locals; omega⟩, w7, hts _ w6⟩ ⟨gx_blind, fun U hU hW => ⟨rfl, gx_upre hok F.2.2.2.2.2.2.2.2 hP hS U hU hW⟩⟩ rfl (by rw [List.length_map]; exact hn) hL.2.1 (by show (As.reverse ++ .ref a :: st).map (gx_v E) = _; rw [List.map_append, List.map_reverse]; rfl) (lv_room (gx_rm F.fm hst)) hd ⟨by omega, by omega⟩) hS (fun H1 locs1 hP1 hS1 => ?_)
  exact kk r1 h1 r h' ho p e R s m args below meth c Q F hR H1 locs1 (cells + mc) (slots + ms) ls hP1 hS1 (by omega) (by omega) hL
theorem gx_obj {idx a : Nat} (hw : Cond.methodLink own idx objectInit ∈ gx_tbl) (hw2 : Cond.instanceMethod objectInit ∈ gx_tbl) (hw3 : Cond.code objectInit ⟨#[0xb1]⟩ 1 none ∈ gx_tbl) (hd : decode cc pc = .ok (.invokespecial idx, 3)) (hst : (st.map fun v => v.category).sum ≤ 8) (kk : gx_G E own cc nL rt ini (d + 1) bc bs (pc + 3) L st h em o) : gx_G E own cc nL rt ini (d + 1) bc bs pc L (.ref a :: st) h em o := by
  refine fun r h' ho p e R s m args below meth c Q F hR H locs cells slots ls hP hS hc hs hL => ?_
  have hfr := F.2.2.2.2.2.2.1
  have hq := lv_room (m := m) (pc := pc) (ls := ls) (rest := ((.ref a :: st).map (gx_v E))) (gx_rm F.fm hst)
  refine W.objInit F.1 F.2.1 F.2.2.2.1 (F.2.2.2.2.1 _ hw) (F.2.2.2.2.1 _ hw2) (F.2.2.2.2.1 _ hw3) rfl (hL.2.1.trans F.2.2.1.symm) (rest := st.map (gx_v E)) rfl hd (by omega) (by omega) ?_
  exact kk r h' ho p e R s m args below meth c Q F hR H locs cells slots ls hP hS hc hs hL
theorem gx_none : gx_G E own cc nL rt ini d bc bs pc L st h em none := fun r h' ho => by cases ho
/-- fewer locals are looked at -/
def gx_le : List (Option Value) → List (Option Value) → Prop
  | [], [] => True
  | _ :: a, none :: b => gx_le a b
  | some v :: a, some w :: b => v = w ∧ gx_le a b
  | _, _ => False
theorem gx_le_len : ∀ (a b : List (Option Value)), gx_le a b → a.length = b.length
  | [], [], _ => rfl
  | [], none :: b, q => q.elim
  | [], some _ :: b, q => q.elim
  | _ :: a, [], q => by cases ‹Option Value› <;> exact q.elim
  | none :: a, none :: b, q => congrArg (· + 1) (gx_le_len a b q)
  | some _ :: a, none :: b, q => congrArg (· + 1) (gx_le_len a b q)
  | some _ :: a, some _ :: b, q => congrArg (· + 1) (gx_le_len a b q.2)
  | none :: a, some _ :: b, q => q.elim
theorem gx_le_at : ∀ (a b : List (Option Value)), gx_le a b → ∀ (i : Nat) (v : Value), b[i]? = some (some v) → a[i]? = some (some v)
  | [], [], _, i, v, h => by simp at h
  | [], none :: b, q, i, v, h => q.elim
  | [], some _ :: b, q, i, v, h => q.elim
  | _ :: a, [], q, i, v, h => by simp at h
  | none :: a, none :: b, q, i, v, h => by
    cases i with
    | zero => simp at h
    | succ i => exact gx_le_at a b q i v h
  | some _ :: a, none :: b, q, i, v, h => by
    cases i with
    | zero => simp at h
    | succ i => exact gx_le_at a b q i v h
  | some x :: a, some y :: b, q, i, v, h => by
    cases i with
    | zero => rw [q.1]; exact h
    | succ i => exact gx_le_at a b q.2 i v h
  | none :: a, some _ :: b, q, i, v, h => q.elim
theorem gx_sub {L' : List (Option Value)} (k : gx_G E own cc nL rt ini d bc bs pc L' st h em o) (hl : gx_le L L') : gx_G E own cc nL rt ini d bc bs pc L st h em o := by
  intro r h' ho p e R s m args below meth c Q F hR H locs cells slots ls hP hS hc hs hL
  refine k r h' ho p e R s m args below meth c Q F hR H locs cells slots ls hP hS hc hs ⟨(gx_le_len L L' hl).symm.trans hL.1, hL.2.1, hL.2.2.1, fun q hq => ?_⟩
  obtain ⟨⟨j, w⟩, hj, rfl⟩ := List.mem_map.mp hq
  have hj := ((gx_as_iff _ 0 j w).mp hj).2
  rw [Nat.sub_zero] at hj
  exact hL.at (gx_le_at L L' hl j w hj)
theorem gx_letG {a : gx_H} {f : gx_H → Option (ρ × gx_H)} (k : gx_G E own cc nL rt ini d bc bs pc L st h em (f a)) : gx_G E own cc nL rt ini d bc bs pc L st h em (gx_let a f) := k
theorem gx_w8 {st : List Value} (q : Nat.ble ((st.map fun v => v.category).sum) 8 = true) : (st.map fun v => v.category).sum ≤ 8 := Nat.le_of_ble_eq_true q
/-! ends -/
theorem gx_iret {x : Int32} (hd : decode cc pc = .ok (.ireturn, 1)) (hr : rt = some .int) : gx_G E own cc nL rt ini d bc bs pc L [.int x] h (fun x : Int32 => some (.int x)) (some (x, h)) := by
  intro r h' ho p e R s m args below meth c Q F hR H locs cells slots ls hP hS hc hs hL
  cases ho
  exact hR H locs cells slots pc ls hP hS (by omega) (by omega) ⟨hd, _, hr, rfl⟩
def gx_ret (ty : FieldType) (x : Int32) (h : gx_H) : Option (Int32 × gx_H) := if narrow ty (.int x) = .int x then some (x, h) else none
theorem gx_zret {ty : FieldType} {x : Int32} (hd : decode cc pc = .ok (.ireturn, 1)) (hr : rt = some ty) : gx_G E own cc nL rt ini d bc bs pc L [.int x] h (fun x : Int32 => some (.int x)) (gx_ret ty x h) := by
  intro r h' ho p e R s m args below meth c Q F hR H locs cells slots ls hP hS hc hs hL
  unfold gx_ret at ho
  split at ho
  · rename_i hn
    cases ho
    exact hR H locs cells slots pc ls hP hS (by omega) (by omega) ⟨hd, _, hr, hn⟩
  · cases ho
theorem gx_lret {x : Int64} (hd : decode cc pc = .ok (.lreturn, 1)) (hr : rt = some .long) : gx_G E own cc nL rt ini d bc bs pc L [.long x] h (fun x : Int64 => some (.long x)) (some (x, h)) := by
  intro r h' ho p e R s m args below meth c Q F hR H locs cells slots ls hP hS hc hs hL
  cases ho
  exact hR H locs cells slots pc ls hP hS (by omega) (by omega) ⟨hd, hr⟩
theorem gx_aret {x : Nat} {ty : FieldType} (hd : decode cc pc = .ok (.areturn, 1)) (hr : rt = some ty) (hty : (∃ n, ty = .object n) ∨ ∃ t, ty = .array t) : gx_G E own cc nL rt ini d bc bs pc L [.ref x] h (fun x : Nat => some (.ref x)) (some (x, h)) := by
  intro r h' ho p e R s m args below meth c Q F hR H locs cells slots ls hP hS hc hs hL
  cases ho
  exact hR H locs cells slots pc ls hP hS (by omega) (by omega) ⟨hd, _, hr, hty⟩
theorem gx_vret (hd : decode cc pc = .ok (.return_, 1)) (hr : rt = none) : gx_G E own cc nL rt ini d bc bs pc L [] h (fun _ : Unit => none) (some ((), h)) := by
  intro r h' ho p e R s m args below meth c Q F hR H locs cells slots ls hP hS hc hs hL
  cases ho
  exact hR H locs cells slots pc ls hP hS (by omega) (by omega) ⟨hd, hr⟩
/-- a method, out of its body -/
theorem gx_meth {y : MethodName} {mc ms : Nat} (As : List Value) {r : ρ} {h' : gx_H} (hy : plainName y.cls = true) (hlen : (gx_sl As).length ≤ nL) (hini : ini = true → y.name = "<init>")
    (hg : gx_G E y.cls cc nL rt ini d mc ms 0 (gx_L0 nL As) [] h em o) (ho : o = some (r, h')) : gx_M E y cc nL rt d mc ms As h (em r) h' := by
  refine Met.ofW (cc := cc) (maxL := nL) (ret := rt) hy rfl ?_
  intro p e s m args below meth c s₁ B hml hv
  obtain ⟨rfl, hP, hok, hb⟩ := hv
  have hts := atoms_spec (ws := Cond.code y cc nL rt :: gx_tbl) B.pre
  have hown : s.vm.findClass y.cls = some m.cls := findClass_of_methodNamed B.named
  have F : gx_F E y.cls cc nL d ini p ({ frames := d, cells := mc, slots := ms, locals := 64 * d } : Room) s m (As.map (gx_v E)).toArray meth c := ⟨B.exec, B.bytes, hml, hown, fun w hw => hts w (List.mem_cons_of_mem _ hw), hok, ⟨Nat.le_refl _, Nat.le_refl _⟩, fun q => (name_of_methodNamed B.named B.method).1.trans (hini q), hb⟩
  rw [lg_entry_eq]
  refine hg r h' ho p e ({ frames := d, cells := mc, slots := ms, locals := 64 * d } : Room) s m (As.map (gx_v E)).toArray below meth c _ F ?_ s.heap [] 0 0 _ hP va_S.rf (by show 0 + mc ≤ mc; omega) (by show 0 + ms ≤ ms; omega) (gx_entry F.fm As hlen)
  intro H locs cells slots pc ls hP' hS' hc' hs' hret
  have hlocks := B.notSynchronized
  have hrt := B.returns
  refine W.widen (k := mc) (n := ms) hc' hs' ?_
  generalize em r = v at hret
  match v, hret with
  | some (.int x), hret =>
    obtain ⟨h1, ty, h2, h3⟩ := hret
    exact W.zret B.exec B.bytes (hrt.trans h2) h3 (fun t ht _ => ⟨rfl, by rw [ht]; exact hP', hS'.F ht⟩) hS'.2.2 h1
  | some (.long x), hret =>
    obtain ⟨h1, h2⟩ := hret
    exact W.lret B.exec B.bytes (hrt.trans h2) (fun t ht _ => ⟨rfl, by rw [ht]; exact hP', hS'.F ht⟩) hS'.2.2 h1
  | some (.ref x), hret =>
    obtain ⟨h1, ty, h2, h3⟩ := hret
    exact W.aret B.exec B.bytes (hrt.trans h2) h3 (Or.inr ⟨_, rfl⟩) (fun t ht _ => ⟨rfl, by rw [ht]; exact hP', hS'.F ht⟩) hS'.2.2 h1
  | none, hret =>
    obtain ⟨h1, h2⟩ := hret
    exact W.vret B.exec B.bytes (hrt.trans h2) (fun t ht _ => ⟨rfl, by rw [ht]; exact hP', hS'.F ht⟩) hS'.2.2 h1
end GXC
end
section
/-! things from outside: texts, their bytes, statics, the script -/
def gx_kis (w : Nat) : Option Unit := if w < 5 then some () else none
def gx_kc (w : Nat) : Option Int32 := if w < 5 then some 0 else none
def gx_kv (w : Nat) : Option Nat := if w < 5 then some (5 + w) else none
def gx_kl (w : Nat) : Option Int32 := if 5 ≤ w ∧ w < 10 then some (Int32.ofNat (gx_len.getD (w - 5) 0)) else none
def gx_kb (w : Nat) (i : Int32) : Option Int32 := if (5 ≤ w ∧ w < 10) ∧ ¬ (i < 0 ∨ gx_len.getD (w - 5) 0 ≤ i.toNatClampNeg) then some ((gx_byt.getD (w - 5) []).getD i.toNatClampNeg 0) else none
def gx_sc (E : gx_Env) (i : Int32) : Option Int32 := if ¬ (i < 0 ∨ gx_sN E ≤ i.toNatClampNeg) then some (gx_sX E i.toNatClampNeg) else none
theorem gx_kis_of {α : Type} {w : Nat} {f : Unit → Option α} {x : α} (q : (gx_kis w).bind f = some x) : w < 5 := by
  obtain ⟨u, hu, -⟩ := Option.bind_eq_some_iff.mp q
  unfold gx_kis at hu
  split at hu
  · assumption
  · cases hu
section GXK
variable {E : gx_Env} {own : String} {cc : ByteArray} {nL : Nat} {rt : Option FieldType} {ini : Bool} {d bc bs pc : Nat} {L : List (Option Value)} {st : List Value} {h : gx_H} {ρ : Type} {em : ρ → Option Value} {o o1 o2 : Option (ρ × gx_H)}
theorem gx_ldcS {i idx : Nat} {tx : String} (hi : i ≠ 10) (hq : gx_txt[i]? = some (idx, tx)) (hown : own = RX9) (hd : decode cc pc = .ok (.ldc idx, 2)) (k : gx_G E own cc nL rt ini d bc bs (pc + 2) L (.retAddr i :: st) h em o) : gx_G E own cc nL rt ini d bc bs pc L st h em o := by
  subst hown
  refine gx_pure (fun F hL k => ?_) k
  rw [List.map_cons, gx_kref hi] at k
  exact va_ldcS F.1 F.2.1 F.2.2.2.1 (F.2.2.2.2.2.1.2.2.2.2.2.1 i _ hq) hd k
theorem gx_kval {idx w : Nat} {f : Nat → Option (ρ × gx_H)} (hw : Cond.fieldLink own idx "java/lang/String" "value" "[B" ∈ gx_tbl) (hd : decode cc pc = .ok (.getfield idx, 3)) (kk : ∀ x, gx_G E own cc nL rt ini d bc bs (pc + 3) L (.retAddr x :: st) h em (f x)) : gx_G E own cc nL rt ini d bc bs pc L (.retAddr w :: st) h em ((gx_kv w).bind f) := by
  refine gx_bind fun x hx => ?_
  unfold gx_kv at hx
  split at hx
  · rename_i hw5
    cases hx
    intro r h' ho p e R s m args below meth c Q F hR H locs cells slots ls hP hS hc hs hL
    rw [List.map_cons, gx_kref (by omega)]
    have k := kk (5 + w) r h' ho p e R s m args below meth c Q F hR H locs cells slots ls hP hS hc hs hL
    rw [List.map_cons, gx_kref (by omega)] at k
    exact vk_getf F.1 F.2.1 (F.2.2.2.2.2.1.2.2.2.2.1.1 w hw5).2.2.1 hS F.2.2.2.1 (F.2.2.2.2.1 _ hw) (fun x hx => hx) hd k
  · cases hx
theorem gx_kcod {idx w : Nat} {f : Int32 → Option (ρ × gx_H)} (hw : Cond.fieldLink own idx "java/lang/String" "coder" "B" ∈ gx_tbl) (hd : decode cc pc = .ok (.getfield idx, 3)) (kk : ∀ x, gx_G E own cc nL rt ini d bc bs (pc + 3) L (.int x :: st) h em (f x)) : gx_G E own cc nL rt ini d bc bs pc L (.retAddr w :: st) h em ((gx_kc w).bind f) := by
  refine gx_bind fun x hx => ?_
  unfold gx_kc at hx
  split at hx
  · rename_i hw5
    cases hx
    intro r h' ho p e R s m args below meth c Q F hR H locs cells slots ls hP hS hc hs hL
    rw [List.map_cons, gx_kref (by omega)]
    exact vk_getf F.1 F.2.1 (F.2.2.2.2.2.1.2.2.2.2.1.1 w hw5).2.1 hS F.2.2.2.1 (F.2.2.2.2.1 _ hw) (fun x hx => hx) hd (kk 0 r h' ho p e R s m args below meth c Q F hR H locs cells slots ls hP hS hc hs hL)
  · cases hx
theorem gx_klen {w : Nat} {f : Int32 → Option (ρ × gx_H)} (hd : decode cc pc = .ok (.arraylength, 1)) (kk : ∀ x, gx_G E own cc nL rt ini d bc bs (pc + 1) L (.int x :: st) h em (f x)) : gx_G E own cc nL rt ini d bc bs pc L (.retAddr w :: st) h em ((gx_kl w).bind f) := by
  refine gx_bind fun x hx => ?_
  unfold gx_kl at hx
  split at hx
  · rename_i hw5
    cases hx
    intro r h' ho p e R s m args below meth c Q F hR H locs cells slots ls hP hS hc hs hL
    rw [List.map_cons, gx_kref (by omega)]
    have hT := (F.2.2.2.2.2.1.2.2.2.2.1.1 (w - 5) (by omega)).2.2.2
    have e5 : 5 + (w - 5) = w := by omega
    dsimp only at hT
    rw [e5] at hT
    exact va_tlen F.1 F.2.1 hT hS rfl hd (kk _ r h' ho p e R s m args below meth c Q F hR H locs cells slots ls hP hS hc hs hL)
  · cases hx
theorem gx_kbyt {w : Nat} {i : Int32} {f : Int32 → Option (ρ × gx_H)} (hd : decode cc pc = .ok (.baload, 1)) (kk : ∀ x, gx_G E own cc nL rt ini d bc bs (pc + 1) L (.int x :: st) h em (f x)) : gx_G E own cc nL rt ini d bc bs pc L (.int i :: .retAddr w :: st) h em ((gx_kb w i).bind f) := by
  refine gx_bind fun x hx => ?_
  unfold gx_kb at hx
  split at hx
  · rename_i hw5
    obtain ⟨hw5, hin⟩ := hw5
    cases hx
    intro r h' ho p e R s m args below meth c Q F hR H locs cells slots ls hP hS hc hs hL
    rw [List.map_cons, List.map_cons, gx_kref (by omega)]
    have hT := (F.2.2.2.2.2.1.2.2.2.2.1.1 (w - 5) (by omega)).2.2.2
    have e5 : 5 + (w - 5) = w := by omega
    dsimp only at hT
    rw [e5] at hT
    exact va_tb F.1 F.2.1 hT hS hin rfl hd (kk _ r h' ho p e R s m args below meth c Q F hR H locs cells slots ls hP hS hc hs hL)
  · cases hx
theorem gx_stC {idx : Nat} (hw : Cond.fieldLink own idx "java/lang/String" "COMPACT_STRINGS" "Z" ∈ gx_tbl) (hd : decode cc pc = .ok (.getstatic idx, 3)) (kk : gx_G E own cc nL rt ini d bc bs (pc + 3) L (.int 1 :: st) h em o) : gx_G E own cc nL rt ini d bc bs pc L st h em o := by
  intro r h' ho p e R s m args below meth c Q F hR H locs cells slots ls hP hS hc hs hL
  exact va_gets F.1 F.2.1 F.2.2.2.2.2.1.2.2.2.2.2.2.1 hS F.2.2.2.1 (F.2.2.2.2.1 _ hw) (fun x hx => hx) hd (kk r h' ho p e R s m args below meth c Q F hR H locs cells slots ls hP hS hc hs hL)
theorem gx_stF {idx : Nat} (hw : Cond.fieldLink own idx "jdk/internal/util/Preconditions" "SIOOBE_FORMATTER" "Ljava/util/function/BiFunction;" ∈ gx_tbl) (hd : decode cc pc = .ok (.getstatic idx, 3)) (kk : gx_G E own cc nL rt ini d bc bs (pc + 3) L (.retAddr 10 :: st) h em o) : gx_G E own cc nL rt ini d bc bs pc L st h em o := by
  intro r h' ho p e R s m args below meth c Q F hR H locs cells slots ls hP hS hc hs hL
  exact va_gets F.1 F.2.1 F.2.2.2.2.2.1.2.2.2.2.2.2.2.1 hS F.2.2.2.1 (F.2.2.2.2.1 _ hw) (fun x hx => hx) hd (kk r h' ho p e R s m args below meth c Q F hR H locs cells slots ls hP hS hc hs hL)
theorem gx_sld {i : Int32} {f : Int32 → Option (ρ × gx_H)} (hd : decode cc pc = .ok (.iaload, 1)) (kk : ∀ x, gx_G E own cc nL rt ini d bc bs (pc + 1) L (.int x :: st) h em (f x)) : gx_G E own cc nL rt ini d bc bs pc L (.int i :: .retAddr 11 :: st) h em ((gx_sc E i).bind f) := by
  refine gx_bind fun x hx => ?_
  unfold gx_sc at hx
  split at hx
  · rename_i hin
    cases hx
    intro r h' ho p e R s m args below meth c Q F hR H locs cells slots ls hP hS hc hs hL
    have hx := F.2.2.2.2.2.1.2.2.2.2.2.2.2.2.2
    have hb := F.2.2.2.2.2.2.2.2
    exact va_sld F.1 F.2.1 hx.1 (Nat.lt_of_lt_of_le hx.2 hb) (by show ¬ gx_b E ≤ _; have := hx.2; omega) hS hin hd (kk _ r h' ho p e R s m args below meth c Q F hR H locs cells slots ls hP hS hc hs hL)
  · cases hx
theorem gx_slen (hd : decode cc pc = .ok (.arraylength, 1)) (kk : gx_G E own cc nL rt ini d bc bs (pc + 1) L (.int (Int32.ofNat (gx_sN E)) :: st) h em o) : gx_G E own cc nL rt ini d bc bs pc L (.retAddr 11 :: st) h em o := by
  intro r h' ho p e R s m args below meth c Q F hR H locs cells slots ls hP hS hc hs hL
  have hx := F.2.2.2.2.2.1.2.2.2.2.2.2.2.2.2
  have hb := F.2.2.2.2.2.2.2.2
  exact va_slen F.1 F.2.1 hx.1 (Nat.lt_of_lt_of_le hx.2 hb) (by show ¬ gx_b E ≤ _; have := hx.2; omega) hS hd (kk r h' ho p e R s m args below meth c Q F hR H locs cells slots ls hP hS hc hs hL)
theorem gx_callK {idx n mc ms : Nat} {y : MethodName} {cy : ByteArray} {ny : Nat} {ρ' : Type} {em' : ρ' → Option Value} {f : Option (ρ' × gx_H)} {g : ρ' → gx_H → Option (ρ × gx_H)} {ry : Option FieldType} {w : Nat} (As : List Value) (hw : gx_MV own idx y cy ny ry n) (hcl : y.cls = "java/lang/String") (hd : decode cc pc = .ok (.invokevirtual idx, 3)) {st0 : List Value} (hst0 : st0 = As.reverse ++ .retAddr w :: st) (hn : As.length = n) (hst : (st.map fun v => v.category).sum ≤ 8)
    (hrec : ∀ x, f = some x → w < 5) (hM : ∀ r h1, f = some (r, h1) → gx_M E y cy ny ry d mc ms (.retAddr w :: As) h (em' r) h1) (kk : ∀ (r : ρ') (h1 : gx_H), gx_G E own cc nL rt ini (d + 1) bc bs (pc + 3) L ((em' r).toList ++ st) h1 em (g r h1)) : gx_G E own cc nL rt ini (d + 1) (bc + mc) (bs + ms) pc L st0 h em (gx_bd f g) := by
  subst hst0
  unfold gx_bd
  refine gx_bind fun rh hf => ?_
  have hw5 := hrec _ hf
  obtain ⟨r1, h1⟩ := rh
  intro r h' ho p e R s m args below meth c Q F hR H locs cells slots ls hP hS hc hs hL
  have hts := F.2.2.2.2.1
  have hok := F.2.2.2.2.2.1
  have hfr := F.2.2.2.2.2.2.1
  obtain ⟨⟨w1, w2, w3, w4⟩, w5, w6, w7⟩ := hw
  have hrv := vk_recv hok.2.2.2.2.1 hw5 hS
  have hkw : gx_v E (.retAddr w) = .ref (gx_aK E w) := gx_kref (by omega)
  have hMM := hM r1 h1 hf
  unfold gx_M at hMM
  rw [List.map_cons, hkw] at hMM
  rw [← hcl] at hrv
  refine gx_cont (ρ' := ρ') (y := y) (As := As) (v := em' r1) (h1 := h1) (va_runV (As := As.map (gx_v E)) (rest := st.map (gx_v E)) ⟨F.1, F.2.1, F.2.2.1, F.2.2.2.1, hts⟩ hMM ⟨callB_of n hts (gx_good w1) rfl rfl rfl (hts _ w2) (hts _ w5) w3 ⟨hfr.1, by show 8 + (ny + 11) + 64 * d ≤ R.locals; omega⟩, hts _ w6, hts _ w7⟩ ⟨gx_blind, hrv, fun U hU hW => ⟨rfl, gx_upre hok F.2.2.2.2.2.2.2.2 hP hS U hU hW⟩⟩ rfl (by rw [List.length_map]; exact hn) hL.2.1 (by show (As.reverse ++ .retAddr w :: st).map (gx_v E) = _; rw [List.map_append, List.map_reverse, List.map_cons, hkw]) (lv_room (gx_rm F.fm hst)) hd ⟨by omega, by omega⟩) hS (fun H1 locs1 hP1 hS1 => ?_)
  exact kk r1 h1 r h' ho p e R s m args below meth c Q F hR H1 locs1 (cells + mc) (slots + ms) ls hP1 hS1 (by omega) (by omega) hL
end GXK
end
section
section GXM
variable {E : gx_Env} {own : String} {cc : ByteArray} {nL : Nat} {rt : Option FieldType} {ini : Bool} {d bc bs pc : Nat} {L : List (Option Value)} {st : List Value} {h : gx_H} {ρ : Type} {em : ρ → Option Value} {o o1 o2 : Option (ρ × gx_H)}
theorem gx_mmax {idx : Nat} {x y : Int32} (w1 : Cond.methodLink own idx Lib.Math.max.name ∈ gx_tbl) (w2 : Cond.static Lib.Math.max.name ∈ gx_tbl) (w3 : Cond.initialized "java/lang/Math" ∈ gx_tbl) (w4 : Cond.code Lib.Math.max.name Lib.Math.max.code 2 (some .int) ∈ gx_tbl) (hd : decode cc pc = .ok (.invokestatic idx, 3)) (hst : (st.map fun v => v.category).sum ≤ 8)
    (kk : gx_G E own cc nL rt ini (d + 1) bc bs (pc + 3) L (.int (if x < y then y else x) :: st) h em o) : gx_G E own cc nL rt ini (d + 1) bc bs pc L (.int y :: .int x :: st) h em o := by
  intro r h' ho p e R s m args below meth c Q F hR H locs cells slots ls hP hS hc hs hL
  have hts := F.2.2.2.2.1
  have hfr := F.2.2.2.2.2.2.1
  have hq := gx_rm F.fm hst
  exact va_mmax F.1 F.2.1 (F.2.2.1.trans hL.2.1.symm) F.2.2.2.1 (hts _ w1) (hts _ w2) (hts _ w3) (hts _ w4) (by omega) (by omega) (by omega) (by omega) hd (kk r h' ho p e R s m args below meth c Q F hR H locs cells slots ls hP hS hc hs hL)
theorem gx_mmin {idx : Nat} {x y : Int32} (w1 : Cond.methodLink own idx Lib.Math.min.name ∈ gx_tbl) (w2 : Cond.static Lib.Math.min.name ∈ gx_tbl) (w3 : Cond.initialized "java/lang/Math" ∈ gx_tbl) (w4 : Cond.code Lib.Math.min.name Lib.Math.min.code 2 (some .int) ∈ gx_tbl) (hd : decode cc pc = .ok (.invokestatic idx, 3)) (hst : (st.map fun v => v.category).sum ≤ 8)
    (kk : gx_G E own cc nL rt ini (d + 1) bc bs (pc + 3) L (.int (if y < x then y else x) :: st) h em o) : gx_G E own cc nL rt ini (d + 1) bc bs pc L (.int y :: .int x :: st) h em o := by
  intro r h' ho p e R s m args below meth c Q F hR H locs cells slots ls hP hS hc hs hL
  have hts := F.2.2.2.2.1
  have hfr := F.2.2.2.2.2.2.1
  have hq := gx_rm F.fm hst
  exact va_mmin F.1 F.2.1 (F.2.2.1.trans hL.2.1.symm) F.2.2.2.1 (hts _ w1) (hts _ w2) (hts _ w3) (hts _ w4) (by omega) (by omega) (by omega) (by omega) hd (kk r h' ho p e R s m args below meth c Q F hR H locs cells slots ls hP hS hc hs hL)
end GXM
end
