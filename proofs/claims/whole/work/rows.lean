section
-- ===== PART A: goes FIRST, ahead of the names: the tables' words, and 'selects' of the private methods out of them =====
/-- a private method of a class that the tables say can be made, by its rows of tables_1 -/
def lw_okq (q : MethodName × Nat) : Prop := (q.1.cls ≠ "java/lang/invoke/MethodHandle" ∧ q.1.cls ≠ "java/lang/invoke/VarHandle") ∧ Cond.instantiable q.1.cls q.2 ∈ tables_1 ∧ Cond.privateMethod q.1 ∈ tables_1 ∧ Cond.instanceMethod q.1 ∈ tables_1
theorem lw_p0 : lw_okq (⟨"SnakeLadders", "refuse", "(I)I"⟩, 11) := ⟨⟨by decide +kernel, by decide +kernel⟩, List.mem_of_getElem? (i := 19) (by decide +kernel), List.mem_of_getElem? (i := 328) (by decide +kernel), List.mem_of_getElem? (i := 329) (by decide +kernel)⟩
theorem lw_p1 : lw_okq (⟨"SnakeLadders$TextReader", "nextToken", "()V"⟩, 8) := ⟨⟨by decide +kernel, by decide +kernel⟩, List.mem_of_getElem? (i := 202) (by decide +kernel), List.mem_of_getElem? (i := 397) (by decide +kernel), List.mem_of_getElem? (i := 398) (by decide +kernel)⟩
theorem lw_p2 : lw_okq (⟨"SnakeLadders$TextReader", "runEnd", "(III)I"⟩, 8) := ⟨⟨by decide +kernel, by decide +kernel⟩, List.mem_of_getElem? (i := 202) (by decide +kernel), List.mem_of_getElem? (i := 401) (by decide +kernel), List.mem_of_getElem? (i := 402) (by decide +kernel)⟩
theorem lw_p3 : lw_okq (⟨"SnakeLadders$TextReader", "byteAt", "(I)I"⟩, 8) := ⟨⟨by decide +kernel, by decide +kernel⟩, List.mem_of_getElem? (i := 202) (by decide +kernel), List.mem_of_getElem? (i := 405) (by decide +kernel), List.mem_of_getElem? (i := 406) (by decide +kernel)⟩
theorem lw_p4 : lw_okq (⟨"SnakeLadders$TextReader", "valueOf", "(I)I"⟩, 8) := ⟨⟨by decide +kernel, by decide +kernel⟩, List.mem_of_getElem? (i := 202) (by decide +kernel), List.mem_of_getElem? (i := 409) (by decide +kernel), List.mem_of_getElem? (i := 410) (by decide +kernel)⟩
theorem lw_p5 : lw_okq (⟨"SnakeLadders$TextReader", "boardItem", "()Z"⟩, 8) := ⟨⟨by decide +kernel, by decide +kernel⟩, List.mem_of_getElem? (i := 202) (by decide +kernel), List.mem_of_getElem? (i := 413) (by decide +kernel), List.mem_of_getElem? (i := 414) (by decide +kernel)⟩
theorem lw_p6 : lw_okq (⟨"SnakeLadders$TextReader", "isWord", "(Ljava/lang/String;)Z"⟩, 8) := ⟨⟨by decide +kernel, by decide +kernel⟩, List.mem_of_getElem? (i := 202) (by decide +kernel), List.mem_of_getElem? (i := 418) (by decide +kernel), List.mem_of_getElem? (i := 419) (by decide +kernel)⟩
theorem lw_p7 : lw_okq (⟨"SnakeLadders$TextReader", "nextNumber", "(II)Z"⟩, 8) := ⟨⟨by decide +kernel, by decide +kernel⟩, List.mem_of_getElem? (i := 202) (by decide +kernel), List.mem_of_getElem? (i := 470) (by decide +kernel), List.mem_of_getElem? (i := 471) (by decide +kernel)⟩
theorem lw_p8 : lw_okq (⟨"SnakeLadders$TextReader", "isNumber", "(II)Z"⟩, 8) := ⟨⟨by decide +kernel, by decide +kernel⟩, List.mem_of_getElem? (i := 202) (by decide +kernel), List.mem_of_getElem? (i := 474) (by decide +kernel), List.mem_of_getElem? (i := 475) (by decide +kernel)⟩
theorem lw_p9 : lw_okq (⟨"SnakeLadders$TextReader", "nextSemicolon", "()Z"⟩, 8) := ⟨⟨by decide +kernel, by decide +kernel⟩, List.mem_of_getElem? (i := 202) (by decide +kernel), List.mem_of_getElem? (i := 480) (by decide +kernel), List.mem_of_getElem? (i := 481) (by decide +kernel)⟩
theorem lw_p10 : lw_okq (⟨"SnakeLadders$TextReader", "laterItem", "()Z"⟩, 8) := ⟨⟨by decide +kernel, by decide +kernel⟩, List.mem_of_getElem? (i := 202) (by decide +kernel), List.mem_of_getElem? (i := 484) (by decide +kernel), List.mem_of_getElem? (i := 485) (by decide +kernel)⟩
theorem lw_p11 : lw_okq (⟨"SnakeLadders$TextReader", "linkItem", "()Z"⟩, 8) := ⟨⟨by decide +kernel, by decide +kernel⟩, List.mem_of_getElem? (i := 202) (by decide +kernel), List.mem_of_getElem? (i := 489) (by decide +kernel), List.mem_of_getElem? (i := 490) (by decide +kernel)⟩
theorem lw_p12 : lw_okq (⟨"SnakeLadders$TextReader", "playerItem", "()Z"⟩, 8) := ⟨⟨by decide +kernel, by decide +kernel⟩, List.mem_of_getElem? (i := 202) (by decide +kernel), List.mem_of_getElem? (i := 496) (by decide +kernel), List.mem_of_getElem? (i := 497) (by decide +kernel)⟩
theorem lw_p13 : lw_okq (⟨"SnakeLadders$TextReader", "setItem", "()Z"⟩, 8) := ⟨⟨by decide +kernel, by decide +kernel⟩, List.mem_of_getElem? (i := 202) (by decide +kernel), List.mem_of_getElem? (i := 502) (by decide +kernel), List.mem_of_getElem? (i := 503) (by decide +kernel)⟩
theorem lw_p14 : lw_okq (⟨"SnakeLadders$TextReader", "throwItem", "()Z"⟩, 8) := ⟨⟨by decide +kernel, by decide +kernel⟩, List.mem_of_getElem? (i := 202) (by decide +kernel), List.mem_of_getElem? (i := 507) (by decide +kernel), List.mem_of_getElem? (i := 508) (by decide +kernel)⟩
theorem lw_p15 : lw_okq (⟨"SnakeLadders$Board", "linkMet", "(II)I"⟩, 11) := ⟨⟨by decide +kernel, by decide +kernel⟩, List.mem_of_getElem? (i := 33) (by decide +kernel), List.mem_of_getElem? (i := 535) (by decide +kernel), List.mem_of_getElem? (i := 536) (by decide +kernel)⟩
def lw_privs_1 : List (MethodName × Nat) := [(⟨"SnakeLadders", "refuse", "(I)I"⟩, 11), (⟨"SnakeLadders$TextReader", "nextToken", "()V"⟩, 8), (⟨"SnakeLadders$TextReader", "runEnd", "(III)I"⟩, 8), (⟨"SnakeLadders$TextReader", "byteAt", "(I)I"⟩, 8), (⟨"SnakeLadders$TextReader", "valueOf", "(I)I"⟩, 8), (⟨"SnakeLadders$TextReader", "boardItem", "()Z"⟩, 8), (⟨"SnakeLadders$TextReader", "isWord", "(Ljava/lang/String;)Z"⟩, 8), (⟨"SnakeLadders$TextReader", "nextNumber", "(II)Z"⟩, 8), (⟨"SnakeLadders$TextReader", "isNumber", "(II)Z"⟩, 8), (⟨"SnakeLadders$TextReader", "nextSemicolon", "()Z"⟩, 8), (⟨"SnakeLadders$TextReader", "laterItem", "()Z"⟩, 8), (⟨"SnakeLadders$TextReader", "linkItem", "()Z"⟩, 8), (⟨"SnakeLadders$TextReader", "playerItem", "()Z"⟩, 8), (⟨"SnakeLadders$TextReader", "setItem", "()Z"⟩, 8), (⟨"SnakeLadders$TextReader", "throwItem", "()Z"⟩, 8), (⟨"SnakeLadders$Board", "linkMet", "(II)I"⟩, 11)]
theorem lw_r1 : ∀ q ∈ lw_privs_1, lw_okq q := List.forall_mem_cons.mpr ⟨lw_p0, List.forall_mem_cons.mpr ⟨lw_p1, List.forall_mem_cons.mpr ⟨lw_p2, List.forall_mem_cons.mpr ⟨lw_p3, List.forall_mem_cons.mpr ⟨lw_p4, List.forall_mem_cons.mpr ⟨lw_p5, List.forall_mem_cons.mpr ⟨lw_p6, List.forall_mem_cons.mpr ⟨lw_p7, List.forall_mem_cons.mpr ⟨lw_p8, List.forall_mem_cons.mpr ⟨lw_p9, List.forall_mem_cons.mpr ⟨lw_p10, List.forall_mem_cons.mpr ⟨lw_p11, List.forall_mem_cons.mpr ⟨lw_p12, List.forall_mem_cons.mpr ⟨lw_p13, List.forall_mem_cons.mpr ⟨lw_p14, List.forall_mem_cons.mpr ⟨lw_p15, fun _ h => absurd h List.not_mem_nil⟩⟩⟩⟩⟩⟩⟩⟩⟩⟩⟩⟩⟩⟩⟩⟩
theorem lw_p16 : lw_okq (⟨"SnakeLadders$Board", "leadOf", "(II)I"⟩, 11) := ⟨⟨by decide +kernel, by decide +kernel⟩, List.mem_of_getElem? (i := 33) (by decide +kernel), List.mem_of_getElem? (i := 540) (by decide +kernel), List.mem_of_getElem? (i := 541) (by decide +kernel)⟩
theorem lw_p17 : lw_okq (⟨"SnakeLadders", "isPlayer", "(I)Z"⟩, 11) := ⟨⟨by decide +kernel, by decide +kernel⟩, List.mem_of_getElem? (i := 19) (by decide +kernel), List.mem_of_getElem? (i := 564) (by decide +kernel), List.mem_of_getElem? (i := 565) (by decide +kernel)⟩
theorem lw_p18 : lw_okq (⟨"SnakeLadders$History", "dropOldest", "()V"⟩, 2) := ⟨⟨by decide +kernel, by decide +kernel⟩, List.mem_of_getElem? (i := 108) (by decide +kernel), List.mem_of_getElem? (i := 573) (by decide +kernel), List.mem_of_getElem? (i := 574) (by decide +kernel)⟩
theorem lw_p19 : lw_okq (⟨"SnakeLadders", "isLink", "(I)Z"⟩, 11) := ⟨⟨by decide +kernel, by decide +kernel⟩, List.mem_of_getElem? (i := 19) (by decide +kernel), List.mem_of_getElem? (i := 608) (by decide +kernel), List.mem_of_getElem? (i := 609) (by decide +kernel)⟩
theorem lw_p20 : lw_okq (⟨"SnakeLadders", "refuseByTen", "()I"⟩, 11) := ⟨⟨by decide +kernel, by decide +kernel⟩, List.mem_of_getElem? (i := 19) (by decide +kernel), List.mem_of_getElem? (i := 624) (by decide +kernel), List.mem_of_getElem? (i := 625) (by decide +kernel)⟩
theorem lw_p21 : lw_okq (⟨"SnakeLadders$Outlook", "spreadFrom", "(III)V"⟩, 8) := ⟨⟨by decide +kernel, by decide +kernel⟩, List.mem_of_getElem? (i := 241) (by decide +kernel), List.mem_of_getElem? (i := 652) (by decide +kernel), List.mem_of_getElem? (i := 653) (by decide +kernel)⟩
theorem lw_p22 : lw_okq (⟨"SnakeLadders$Outlook", "addRows", "(II)V"⟩, 8) := ⟨⟨by decide +kernel, by decide +kernel⟩, List.mem_of_getElem? (i := 241) (by decide +kernel), List.mem_of_getElem? (i := 656) (by decide +kernel), List.mem_of_getElem? (i := 657) (by decide +kernel)⟩
theorem lw_p23 : lw_okq (⟨"SnakeLadders", "keepFraction", "(JJ)I"⟩, 11) := ⟨⟨by decide +kernel, by decide +kernel⟩, List.mem_of_getElem? (i := 19) (by decide +kernel), List.mem_of_getElem? (i := 672) (by decide +kernel), List.mem_of_getElem? (i := 673) (by decide +kernel)⟩
theorem lw_p24 : lw_okq (⟨"SnakeLadders", "areUnlikePlayers", "(II)Z"⟩, 11) := ⟨⟨by decide +kernel, by decide +kernel⟩, List.mem_of_getElem? (i := 19) (by decide +kernel), List.mem_of_getElem? (i := 691) (by decide +kernel), List.mem_of_getElem? (i := 692) (by decide +kernel)⟩
theorem lw_p25 : lw_okq (⟨"SnakeLadders$Guess", "fitsNotes", "(LSnakeLadders$Board;LSnakeLadders$Seen;II)Z"⟩, 1) := ⟨⟨by decide +kernel, by decide +kernel⟩, List.mem_of_getElem? (i := 277) (by decide +kernel), List.mem_of_getElem? (i := 760) (by decide +kernel), List.mem_of_getElem? (i := 761) (by decide +kernel)⟩
theorem lw_p26 : lw_okq (⟨"SnakeLadders$Guess", "mostAlike", "(I)I"⟩, 1) := ⟨⟨by decide +kernel, by decide +kernel⟩, List.mem_of_getElem? (i := 277) (by decide +kernel), List.mem_of_getElem? (i := 777) (by decide +kernel), List.mem_of_getElem? (i := 778) (by decide +kernel)⟩
theorem lw_p27 : lw_okq (⟨"SnakeLadders$Guess", "alikeTo", "(II)I"⟩, 1) := ⟨⟨by decide +kernel, by decide +kernel⟩, List.mem_of_getElem? (i := 277) (by decide +kernel), List.mem_of_getElem? (i := 781) (by decide +kernel), List.mem_of_getElem? (i := 782) (by decide +kernel)⟩
theorem lw_p28 : lw_okq (⟨"SnakeLadders$Outlook", "moveUnlessHome", "(IILSnakeLadders$Step;)V"⟩, 8) := ⟨⟨by decide +kernel, by decide +kernel⟩, List.mem_of_getElem? (i := 241) (by decide +kernel), List.mem_of_getElem? (i := 815) (by decide +kernel), List.mem_of_getElem? (i := 816) (by decide +kernel)⟩
theorem lw_p29 : lw_okq (⟨"SnakeLadders$Outlook", "gain", "(IIZ)I"⟩, 8) := ⟨⟨by decide +kernel, by decide +kernel⟩, List.mem_of_getElem? (i := 241) (by decide +kernel), List.mem_of_getElem? (i := 823) (by decide +kernel), List.mem_of_getElem? (i := 824) (by decide +kernel)⟩
theorem lw_p30 : lw_okq (⟨"SnakeLadders$Outlook", "rests", "(II)Z"⟩, 8) := ⟨⟨by decide +kernel, by decide +kernel⟩, List.mem_of_getElem? (i := 241) (by decide +kernel), List.mem_of_getElem? (i := 831) (by decide +kernel), List.mem_of_getElem? (i := 832) (by decide +kernel)⟩
theorem lw_p31 : lw_okq (⟨"SnakeLadders", "amount", "(I)I"⟩, 11) := ⟨⟨by decide +kernel, by decide +kernel⟩, List.mem_of_getElem? (i := 19) (by decide +kernel), List.mem_of_getElem? (i := 894) (by decide +kernel), List.mem_of_getElem? (i := 895) (by decide +kernel)⟩
def lw_privs_2 : List (MethodName × Nat) := [(⟨"SnakeLadders$Board", "leadOf", "(II)I"⟩, 11), (⟨"SnakeLadders", "isPlayer", "(I)Z"⟩, 11), (⟨"SnakeLadders$History", "dropOldest", "()V"⟩, 2), (⟨"SnakeLadders", "isLink", "(I)Z"⟩, 11), (⟨"SnakeLadders", "refuseByTen", "()I"⟩, 11), (⟨"SnakeLadders$Outlook", "spreadFrom", "(III)V"⟩, 8), (⟨"SnakeLadders$Outlook", "addRows", "(II)V"⟩, 8), (⟨"SnakeLadders", "keepFraction", "(JJ)I"⟩, 11), (⟨"SnakeLadders", "areUnlikePlayers", "(II)Z"⟩, 11), (⟨"SnakeLadders$Guess", "fitsNotes", "(LSnakeLadders$Board;LSnakeLadders$Seen;II)Z"⟩, 1), (⟨"SnakeLadders$Guess", "mostAlike", "(I)I"⟩, 1), (⟨"SnakeLadders$Guess", "alikeTo", "(II)I"⟩, 1), (⟨"SnakeLadders$Outlook", "moveUnlessHome", "(IILSnakeLadders$Step;)V"⟩, 8), (⟨"SnakeLadders$Outlook", "gain", "(IIZ)I"⟩, 8), (⟨"SnakeLadders$Outlook", "rests", "(II)Z"⟩, 8), (⟨"SnakeLadders", "amount", "(I)I"⟩, 11)]
theorem lw_r2 : ∀ q ∈ lw_privs_2, lw_okq q := List.forall_mem_cons.mpr ⟨lw_p16, List.forall_mem_cons.mpr ⟨lw_p17, List.forall_mem_cons.mpr ⟨lw_p18, List.forall_mem_cons.mpr ⟨lw_p19, List.forall_mem_cons.mpr ⟨lw_p20, List.forall_mem_cons.mpr ⟨lw_p21, List.forall_mem_cons.mpr ⟨lw_p22, List.forall_mem_cons.mpr ⟨lw_p23, List.forall_mem_cons.mpr ⟨lw_p24, List.forall_mem_cons.mpr ⟨lw_p25, List.forall_mem_cons.mpr ⟨lw_p26, List.forall_mem_cons.mpr ⟨lw_p27, List.forall_mem_cons.mpr ⟨lw_p28, List.forall_mem_cons.mpr ⟨lw_p29, List.forall_mem_cons.mpr ⟨lw_p30, List.forall_mem_cons.mpr ⟨lw_p31, fun _ h => absurd h List.not_mem_nil⟩⟩⟩⟩⟩⟩⟩⟩⟩⟩⟩⟩⟩⟩⟩⟩
theorem lw_p32 : lw_okq (⟨"SnakeLaddersModel", "bad", "(I)I"⟩, 14) := ⟨⟨by decide +kernel, by decide +kernel⟩, List.mem_of_getElem? (i := 922) (by decide +kernel), List.mem_of_getElem? (i := 982) (by decide +kernel), List.mem_of_getElem? (i := 983) (by decide +kernel)⟩
theorem lw_p33 : lw_okq (⟨"SnakeLaddersModel", "empties", "(I)V"⟩, 14) := ⟨⟨by decide +kernel, by decide +kernel⟩, List.mem_of_getElem? (i := 922) (by decide +kernel), List.mem_of_getElem? (i := 986) (by decide +kernel), List.mem_of_getElem? (i := 987) (by decide +kernel)⟩
theorem lw_p34 : lw_okq (⟨"SnakeLaddersModel", "isSquare", "(I)Z"⟩, 14) := ⟨⟨by decide +kernel, by decide +kernel⟩, List.mem_of_getElem? (i := 922) (by decide +kernel), List.mem_of_getElem? (i := 999) (by decide +kernel), List.mem_of_getElem? (i := 1000) (by decide +kernel)⟩
theorem lw_p35 : lw_okq (⟨"SnakeLaddersModel", "linkFrom", "(II)I"⟩, 14) := ⟨⟨by decide +kernel, by decide +kernel⟩, List.mem_of_getElem? (i := 922) (by decide +kernel), List.mem_of_getElem? (i := 1003) (by decide +kernel), List.mem_of_getElem? (i := 1004) (by decide +kernel)⟩
theorem lw_p36 : lw_okq (⟨"SnakeLaddersModel", "no", "()I"⟩, 14) := ⟨⟨by decide +kernel, by decide +kernel⟩, List.mem_of_getElem? (i := 922) (by decide +kernel), List.mem_of_getElem? (i := 1007) (by decide +kernel), List.mem_of_getElem? (i := 1008) (by decide +kernel)⟩
theorem lw_p37 : lw_okq (⟨"SnakeLaddersModel", "full", "()I"⟩, 14) := ⟨⟨by decide +kernel, by decide +kernel⟩, List.mem_of_getElem? (i := 922) (by decide +kernel), List.mem_of_getElem? (i := 1011) (by decide +kernel), List.mem_of_getElem? (i := 1012) (by decide +kernel)⟩
theorem lw_p38 : lw_okq (⟨"SnakeLaddersModel", "addsLink", "(IIII)V"⟩, 14) := ⟨⟨by decide +kernel, by decide +kernel⟩, List.mem_of_getElem? (i := 922) (by decide +kernel), List.mem_of_getElem? (i := 1015) (by decide +kernel), List.mem_of_getElem? (i := 1016) (by decide +kernel)⟩
theorem lw_p39 : lw_okq (⟨"SnakeLaddersModel", "addsPlayer", "(II)V"⟩, 14) := ⟨⟨by decide +kernel, by decide +kernel⟩, List.mem_of_getElem? (i := 922) (by decide +kernel), List.mem_of_getElem? (i := 1023) (by decide +kernel), List.mem_of_getElem? (i := 1024) (by decide +kernel)⟩
theorem lw_p40 : lw_okq (⟨"SnakeLaddersModel", "blanks", "()V"⟩, 14) := ⟨⟨by decide +kernel, by decide +kernel⟩, List.mem_of_getElem? (i := 922) (by decide +kernel), List.mem_of_getElem? (i := 1040) (by decide +kernel), List.mem_of_getElem? (i := 1041) (by decide +kernel)⟩
theorem lw_p41 : lw_okq (⟨"SnakeLaddersModel", "byteAt", "(I)I"⟩, 14) := ⟨⟨by decide +kernel, by decide +kernel⟩, List.mem_of_getElem? (i := 922) (by decide +kernel), List.mem_of_getElem? (i := 1044) (by decide +kernel), List.mem_of_getElem? (i := 1045) (by decide +kernel)⟩
theorem lw_p42 : lw_okq (⟨"SnakeLaddersModel", "readsItem", "(Z)Z"⟩, 14) := ⟨⟨by decide +kernel, by decide +kernel⟩, List.mem_of_getElem? (i := 922) (by decide +kernel), List.mem_of_getElem? (i := 1048) (by decide +kernel), List.mem_of_getElem? (i := 1049) (by decide +kernel)⟩
theorem lw_p43 : lw_okq (⟨"SnakeLaddersModel", "takesWord", "()V"⟩, 14) := ⟨⟨by decide +kernel, by decide +kernel⟩, List.mem_of_getElem? (i := 922) (by decide +kernel), List.mem_of_getElem? (i := 1052) (by decide +kernel), List.mem_of_getElem? (i := 1053) (by decide +kernel)⟩
theorem lw_p44 : lw_okq (⟨"SnakeLaddersModel", "wordOf", "()I"⟩, 14) := ⟨⟨by decide +kernel, by decide +kernel⟩, List.mem_of_getElem? (i := 922) (by decide +kernel), List.mem_of_getElem? (i := 1058) (by decide +kernel), List.mem_of_getElem? (i := 1059) (by decide +kernel)⟩
theorem lw_p45 : lw_okq (⟨"SnakeLaddersModel", "isWord", "(IIIIII)Z"⟩, 14) := ⟨⟨by decide +kernel, by decide +kernel⟩, List.mem_of_getElem? (i := 922) (by decide +kernel), List.mem_of_getElem? (i := 1062) (by decide +kernel), List.mem_of_getElem? (i := 1063) (by decide +kernel)⟩
theorem lw_p46 : lw_okq (⟨"SnakeLaddersModel", "isLetter", "(III)Z"⟩, 14) := ⟨⟨by decide +kernel, by decide +kernel⟩, List.mem_of_getElem? (i := 922) (by decide +kernel), List.mem_of_getElem? (i := 1066) (by decide +kernel), List.mem_of_getElem? (i := 1067) (by decide +kernel)⟩
theorem lw_p47 : lw_okq (⟨"SnakeLaddersModel", "readsBoard", "()Z"⟩, 14) := ⟨⟨by decide +kernel, by decide +kernel⟩, List.mem_of_getElem? (i := 922) (by decide +kernel), List.mem_of_getElem? (i := 1070) (by decide +kernel), List.mem_of_getElem? (i := 1071) (by decide +kernel)⟩
def lw_privs_3 : List (MethodName × Nat) := [(⟨"SnakeLaddersModel", "bad", "(I)I"⟩, 14), (⟨"SnakeLaddersModel", "empties", "(I)V"⟩, 14), (⟨"SnakeLaddersModel", "isSquare", "(I)Z"⟩, 14), (⟨"SnakeLaddersModel", "linkFrom", "(II)I"⟩, 14), (⟨"SnakeLaddersModel", "no", "()I"⟩, 14), (⟨"SnakeLaddersModel", "full", "()I"⟩, 14), (⟨"SnakeLaddersModel", "addsLink", "(IIII)V"⟩, 14), (⟨"SnakeLaddersModel", "addsPlayer", "(II)V"⟩, 14), (⟨"SnakeLaddersModel", "blanks", "()V"⟩, 14), (⟨"SnakeLaddersModel", "byteAt", "(I)I"⟩, 14), (⟨"SnakeLaddersModel", "readsItem", "(Z)Z"⟩, 14), (⟨"SnakeLaddersModel", "takesWord", "()V"⟩, 14), (⟨"SnakeLaddersModel", "wordOf", "()I"⟩, 14), (⟨"SnakeLaddersModel", "isWord", "(IIIIII)Z"⟩, 14), (⟨"SnakeLaddersModel", "isLetter", "(III)Z"⟩, 14), (⟨"SnakeLaddersModel", "readsBoard", "()Z"⟩, 14)]
theorem lw_r3 : ∀ q ∈ lw_privs_3, lw_okq q := List.forall_mem_cons.mpr ⟨lw_p32, List.forall_mem_cons.mpr ⟨lw_p33, List.forall_mem_cons.mpr ⟨lw_p34, List.forall_mem_cons.mpr ⟨lw_p35, List.forall_mem_cons.mpr ⟨lw_p36, List.forall_mem_cons.mpr ⟨lw_p37, List.forall_mem_cons.mpr ⟨lw_p38, List.forall_mem_cons.mpr ⟨lw_p39, List.forall_mem_cons.mpr ⟨lw_p40, List.forall_mem_cons.mpr ⟨lw_p41, List.forall_mem_cons.mpr ⟨lw_p42, List.forall_mem_cons.mpr ⟨lw_p43, List.forall_mem_cons.mpr ⟨lw_p44, List.forall_mem_cons.mpr ⟨lw_p45, List.forall_mem_cons.mpr ⟨lw_p46, List.forall_mem_cons.mpr ⟨lw_p47, fun _ h => absurd h List.not_mem_nil⟩⟩⟩⟩⟩⟩⟩⟩⟩⟩⟩⟩⟩⟩⟩⟩
theorem lw_p48 : lw_okq (⟨"SnakeLaddersModel", "takesNumber", "(II)Z"⟩, 14) := ⟨⟨by decide +kernel, by decide +kernel⟩, List.mem_of_getElem? (i := 922) (by decide +kernel), List.mem_of_getElem? (i := 1074) (by decide +kernel), List.mem_of_getElem? (i := 1075) (by decide +kernel)⟩
theorem lw_p49 : lw_okq (⟨"SnakeLaddersModel", "readsLink", "()Z"⟩, 14) := ⟨⟨by decide +kernel, by decide +kernel⟩, List.mem_of_getElem? (i := 922) (by decide +kernel), List.mem_of_getElem? (i := 1080) (by decide +kernel), List.mem_of_getElem? (i := 1081) (by decide +kernel)⟩
theorem lw_p50 : lw_okq (⟨"SnakeLaddersModel", "readsPlayer", "()Z"⟩, 14) := ⟨⟨by decide +kernel, by decide +kernel⟩, List.mem_of_getElem? (i := 922) (by decide +kernel), List.mem_of_getElem? (i := 1084) (by decide +kernel), List.mem_of_getElem? (i := 1085) (by decide +kernel)⟩
theorem lw_p51 : lw_okq (⟨"SnakeLaddersModel", "readsSet", "()Z"⟩, 14) := ⟨⟨by decide +kernel, by decide +kernel⟩, List.mem_of_getElem? (i := 922) (by decide +kernel), List.mem_of_getElem? (i := 1088) (by decide +kernel), List.mem_of_getElem? (i := 1089) (by decide +kernel)⟩
theorem lw_p52 : lw_okq (⟨"SnakeLaddersModel", "readsThrows", "()Z"⟩, 14) := ⟨⟨by decide +kernel, by decide +kernel⟩, List.mem_of_getElem? (i := 922) (by decide +kernel), List.mem_of_getElem? (i := 1092) (by decide +kernel), List.mem_of_getElem? (i := 1093) (by decide +kernel)⟩
theorem lw_p53 : lw_okq (⟨"SnakeLaddersModel", "isHome", "(II)Z"⟩, 14) := ⟨⟨by decide +kernel, by decide +kernel⟩, List.mem_of_getElem? (i := 922) (by decide +kernel), List.mem_of_getElem? (i := 1096) (by decide +kernel), List.mem_of_getElem? (i := 1097) (by decide +kernel)⟩
theorem lw_p54 : lw_okq (⟨"SnakeLaddersModel", "throwsOne", "(III)V"⟩, 14) := ⟨⟨by decide +kernel, by decide +kernel⟩, List.mem_of_getElem? (i := 922) (by decide +kernel), List.mem_of_getElem? (i := 1100) (by decide +kernel), List.mem_of_getElem? (i := 1101) (by decide +kernel)⟩
theorem lw_p55 : lw_okq (⟨"SnakeLaddersModel", "takesEnd", "()Z"⟩, 14) := ⟨⟨by decide +kernel, by decide +kernel⟩, List.mem_of_getElem? (i := 922) (by decide +kernel), List.mem_of_getElem? (i := 1122) (by decide +kernel), List.mem_of_getElem? (i := 1123) (by decide +kernel)⟩
theorem lw_p56 : lw_okq (⟨"SnakeLaddersModel", "copy", "(II)V"⟩, 14) := ⟨⟨by decide +kernel, by decide +kernel⟩, List.mem_of_getElem? (i := 922) (by decide +kernel), List.mem_of_getElem? (i := 1126) (by decide +kernel), List.mem_of_getElem? (i := 1127) (by decide +kernel)⟩
theorem lw_p57 : lw_okq (⟨"SnakeLaddersModel", "isPlayer", "(I)Z"⟩, 14) := ⟨⟨by decide +kernel, by decide +kernel⟩, List.mem_of_getElem? (i := 922) (by decide +kernel), List.mem_of_getElem? (i := 1134) (by decide +kernel), List.mem_of_getElem? (i := 1135) (by decide +kernel)⟩
theorem lw_p58 : lw_okq (⟨"SnakeLaddersModel", "isSide", "(I)Z"⟩, 14) := ⟨⟨by decide +kernel, by decide +kernel⟩, List.mem_of_getElem? (i := 922) (by decide +kernel), List.mem_of_getElem? (i := 1138) (by decide +kernel), List.mem_of_getElem? (i := 1139) (by decide +kernel)⟩
theorem lw_p59 : lw_okq (⟨"SnakeLaddersModel", "minds", "()V"⟩, 14) := ⟨⟨by decide +kernel, by decide +kernel⟩, List.mem_of_getElem? (i := 922) (by decide +kernel), List.mem_of_getElem? (i := 1142) (by decide +kernel), List.mem_of_getElem? (i := 1143) (by decide +kernel)⟩
theorem lw_p60 : lw_okq (⟨"SnakeLaddersModel", "homes", "(I)I"⟩, 14) := ⟨⟨by decide +kernel, by decide +kernel⟩, List.mem_of_getElem? (i := 922) (by decide +kernel), List.mem_of_getElem? (i := 1154) (by decide +kernel), List.mem_of_getElem? (i := 1155) (by decide +kernel)⟩
theorem lw_p61 : lw_okq (⟨"SnakeLaddersModel", "isLink", "(I)Z"⟩, 14) := ⟨⟨by decide +kernel, by decide +kernel⟩, List.mem_of_getElem? (i := 922) (by decide +kernel), List.mem_of_getElem? (i := 1166) (by decide +kernel), List.mem_of_getElem? (i := 1167) (by decide +kernel)⟩
theorem lw_p62 : lw_okq (⟨"SnakeLaddersModel", "tries", "()V"⟩, 14) := ⟨⟨by decide +kernel, by decide +kernel⟩, List.mem_of_getElem? (i := 922) (by decide +kernel), List.mem_of_getElem? (i := 1175) (by decide +kernel), List.mem_of_getElem? (i := 1176) (by decide +kernel)⟩
theorem lw_p63 : lw_okq (⟨"SnakeLaddersModel", "rollsTried", "(II)V"⟩, 14) := ⟨⟨by decide +kernel, by decide +kernel⟩, List.mem_of_getElem? (i := 922) (by decide +kernel), List.mem_of_getElem? (i := 1179) (by decide +kernel), List.mem_of_getElem? (i := 1180) (by decide +kernel)⟩
def lw_privs_4 : List (MethodName × Nat) := [(⟨"SnakeLaddersModel", "takesNumber", "(II)Z"⟩, 14), (⟨"SnakeLaddersModel", "readsLink", "()Z"⟩, 14), (⟨"SnakeLaddersModel", "readsPlayer", "()Z"⟩, 14), (⟨"SnakeLaddersModel", "readsSet", "()Z"⟩, 14), (⟨"SnakeLaddersModel", "readsThrows", "()Z"⟩, 14), (⟨"SnakeLaddersModel", "isHome", "(II)Z"⟩, 14), (⟨"SnakeLaddersModel", "throwsOne", "(III)V"⟩, 14), (⟨"SnakeLaddersModel", "takesEnd", "()Z"⟩, 14), (⟨"SnakeLaddersModel", "copy", "(II)V"⟩, 14), (⟨"SnakeLaddersModel", "isPlayer", "(I)Z"⟩, 14), (⟨"SnakeLaddersModel", "isSide", "(I)Z"⟩, 14), (⟨"SnakeLaddersModel", "minds", "()V"⟩, 14), (⟨"SnakeLaddersModel", "homes", "(I)I"⟩, 14), (⟨"SnakeLaddersModel", "isLink", "(I)Z"⟩, 14), (⟨"SnakeLaddersModel", "tries", "()V"⟩, 14), (⟨"SnakeLaddersModel", "rollsTried", "(II)V"⟩, 14)]
theorem lw_r4 : ∀ q ∈ lw_privs_4, lw_okq q := List.forall_mem_cons.mpr ⟨lw_p48, List.forall_mem_cons.mpr ⟨lw_p49, List.forall_mem_cons.mpr ⟨lw_p50, List.forall_mem_cons.mpr ⟨lw_p51, List.forall_mem_cons.mpr ⟨lw_p52, List.forall_mem_cons.mpr ⟨lw_p53, List.forall_mem_cons.mpr ⟨lw_p54, List.forall_mem_cons.mpr ⟨lw_p55, List.forall_mem_cons.mpr ⟨lw_p56, List.forall_mem_cons.mpr ⟨lw_p57, List.forall_mem_cons.mpr ⟨lw_p58, List.forall_mem_cons.mpr ⟨lw_p59, List.forall_mem_cons.mpr ⟨lw_p60, List.forall_mem_cons.mpr ⟨lw_p61, List.forall_mem_cons.mpr ⟨lw_p62, List.forall_mem_cons.mpr ⟨lw_p63, fun _ h => absurd h List.not_mem_nil⟩⟩⟩⟩⟩⟩⟩⟩⟩⟩⟩⟩⟩⟩⟩⟩
theorem lw_p64 : lw_okq (⟨"SnakeLaddersModel", "rowsOf", "(I)I"⟩, 14) := ⟨⟨by decide +kernel, by decide +kernel⟩, List.mem_of_getElem? (i := 922) (by decide +kernel), List.mem_of_getElem? (i := 1187) (by decide +kernel), List.mem_of_getElem? (i := 1188) (by decide +kernel)⟩
theorem lw_p65 : lw_okq (⟨"SnakeLaddersModel", "plays", "(III)V"⟩, 14) := ⟨⟨by decide +kernel, by decide +kernel⟩, List.mem_of_getElem? (i := 922) (by decide +kernel), List.mem_of_getElem? (i := 1191) (by decide +kernel), List.mem_of_getElem? (i := 1192) (by decide +kernel)⟩
theorem lw_p66 : lw_okq (⟨"SnakeLaddersModel", "told", "(JJ)I"⟩, 14) := ⟨⟨by decide +kernel, by decide +kernel⟩, List.mem_of_getElem? (i := 922) (by decide +kernel), List.mem_of_getElem? (i := 1199) (by decide +kernel), List.mem_of_getElem? (i := 1200) (by decide +kernel)⟩
theorem lw_p67 : lw_okq (⟨"SnakeLaddersModel", "keeps", "(IIIII)V"⟩, 14) := ⟨⟨by decide +kernel, by decide +kernel⟩, List.mem_of_getElem? (i := 922) (by decide +kernel), List.mem_of_getElem? (i := 1229) (by decide +kernel), List.mem_of_getElem? (i := 1230) (by decide +kernel)⟩
theorem lw_p68 : lw_okq (⟨"SnakeLaddersModel", "isOf", "(I)I"⟩, 14) := ⟨⟨by decide +kernel, by decide +kernel⟩, List.mem_of_getElem? (i := 922) (by decide +kernel), List.mem_of_getElem? (i := 1245) (by decide +kernel), List.mem_of_getElem? (i := 1246) (by decide +kernel)⟩
theorem lw_p69 : lw_okq (⟨"SnakeLaddersModel", "leads", "(IIII)I"⟩, 14) := ⟨⟨by decide +kernel, by decide +kernel⟩, List.mem_of_getElem? (i := 922) (by decide +kernel), List.mem_of_getElem? (i := 1249) (by decide +kernel), List.mem_of_getElem? (i := 1250) (by decide +kernel)⟩
theorem lw_p70 : lw_okq (⟨"SnakeLaddersModel", "whatOf", "(I)I"⟩, 14) := ⟨⟨by decide +kernel, by decide +kernel⟩, List.mem_of_getElem? (i := 922) (by decide +kernel), List.mem_of_getElem? (i := 1265) (by decide +kernel), List.mem_of_getElem? (i := 1266) (by decide +kernel)⟩
theorem lw_p71 : lw_okq (⟨"SnakeLaddersModel", "gains", "(II)V"⟩, 14) := ⟨⟨by decide +kernel, by decide +kernel⟩, List.mem_of_getElem? (i := 922) (by decide +kernel), List.mem_of_getElem? (i := 1277) (by decide +kernel), List.mem_of_getElem? (i := 1278) (by decide +kernel)⟩
theorem lw_p72 : lw_okq (⟨"SnakeLaddersModel", "rests", "(II)Z"⟩, 14) := ⟨⟨by decide +kernel, by decide +kernel⟩, List.mem_of_getElem? (i := 922) (by decide +kernel), List.mem_of_getElem? (i := 1281) (by decide +kernel), List.mem_of_getElem? (i := 1282) (by decide +kernel)⟩
theorem lw_p73 : lw_okq (⟨"SnakeLaddersModel", "countOf", "(I)I"⟩, 14) := ⟨⟨by decide +kernel, by decide +kernel⟩, List.mem_of_getElem? (i := 922) (by decide +kernel), List.mem_of_getElem? (i := 1316) (by decide +kernel), List.mem_of_getElem? (i := 1317) (by decide +kernel)⟩
theorem lw_p74 : lw_okq (⟨"SnakeLaddersModel", "sumOf", "(II)I"⟩, 14) := ⟨⟨by decide +kernel, by decide +kernel⟩, List.mem_of_getElem? (i := 922) (by decide +kernel), List.mem_of_getElem? (i := 1320) (by decide +kernel), List.mem_of_getElem? (i := 1321) (by decide +kernel)⟩
theorem lw_p75 : lw_okq (⟨"SnakeLaddersModel", "mix", "(J)V"⟩, 14) := ⟨⟨by decide +kernel, by decide +kernel⟩, List.mem_of_getElem? (i := 922) (by decide +kernel), List.mem_of_getElem? (i := 1329) (by decide +kernel), List.mem_of_getElem? (i := 1330) (by decide +kernel)⟩
theorem lw_p76 : lw_okq (⟨"SnakeLaddersModel", "mixes", "(II)V"⟩, 14) := ⟨⟨by decide +kernel, by decide +kernel⟩, List.mem_of_getElem? (i := 922) (by decide +kernel), List.mem_of_getElem? (i := 1334) (by decide +kernel), List.mem_of_getElem? (i := 1335) (by decide +kernel)⟩
def lw_privs_5 : List (MethodName × Nat) := [(⟨"SnakeLaddersModel", "rowsOf", "(I)I"⟩, 14), (⟨"SnakeLaddersModel", "plays", "(III)V"⟩, 14), (⟨"SnakeLaddersModel", "told", "(JJ)I"⟩, 14), (⟨"SnakeLaddersModel", "keeps", "(IIIII)V"⟩, 14), (⟨"SnakeLaddersModel", "isOf", "(I)I"⟩, 14), (⟨"SnakeLaddersModel", "leads", "(IIII)I"⟩, 14), (⟨"SnakeLaddersModel", "whatOf", "(I)I"⟩, 14), (⟨"SnakeLaddersModel", "gains", "(II)V"⟩, 14), (⟨"SnakeLaddersModel", "rests", "(II)Z"⟩, 14), (⟨"SnakeLaddersModel", "countOf", "(I)I"⟩, 14), (⟨"SnakeLaddersModel", "sumOf", "(II)I"⟩, 14), (⟨"SnakeLaddersModel", "mix", "(J)V"⟩, 14), (⟨"SnakeLaddersModel", "mixes", "(II)V"⟩, 14)]
theorem lw_r5 : ∀ q ∈ lw_privs_5, lw_okq q := List.forall_mem_cons.mpr ⟨lw_p64, List.forall_mem_cons.mpr ⟨lw_p65, List.forall_mem_cons.mpr ⟨lw_p66, List.forall_mem_cons.mpr ⟨lw_p67, List.forall_mem_cons.mpr ⟨lw_p68, List.forall_mem_cons.mpr ⟨lw_p69, List.forall_mem_cons.mpr ⟨lw_p70, List.forall_mem_cons.mpr ⟨lw_p71, List.forall_mem_cons.mpr ⟨lw_p72, List.forall_mem_cons.mpr ⟨lw_p73, List.forall_mem_cons.mpr ⟨lw_p74, List.forall_mem_cons.mpr ⟨lw_p75, List.forall_mem_cons.mpr ⟨lw_p76, fun _ h => absurd h List.not_mem_nil⟩⟩⟩⟩⟩⟩⟩⟩⟩⟩⟩⟩⟩
def lw_privs : List (MethodName × Nat) := lw_privs_1 ++ (lw_privs_2 ++ (lw_privs_3 ++ (lw_privs_4 ++ (lw_privs_5))))
def lw_tbl : List Cond := k2_sels lw_privs ++ tables_1
theorem lw_privs_ok : ∀ q ∈ lw_privs, lw_okq q := by
  show ∀ q ∈ lw_privs_1 ++ (lw_privs_2 ++ (lw_privs_3 ++ (lw_privs_4 ++ (lw_privs_5)))), lw_okq q
  exact List.forall_mem_append.mpr ⟨lw_r1, List.forall_mem_append.mpr ⟨lw_r2, List.forall_mem_append.mpr ⟨lw_r3, List.forall_mem_append.mpr ⟨lw_r4, lw_r5⟩⟩⟩⟩
end
section
def RX0 : String := "SnakeLadders$Board"
def TX0 : u_T := fun k => match k with
  | 0 => ("SnakeLadders$Board", "length", "I", false)
  | 1 => ("SnakeLadders$Board", "sides", "I", false)
  | 2 => ("SnakeLadders$Board", "links", "I", false)
  | 3 => ("SnakeLadders$Board", "players", "I", false)
  | 4 => ("SnakeLadders$Board", "linkKind", "[I", true)
  | 5 => ("SnakeLadders$Board", "linkFrom", "[I", true)
  | 6 => ("SnakeLadders$Board", "linkTo", "[I", true)
  | 7 => ("SnakeLadders$Board", "used", "[I", true)
  | 8 => ("SnakeLadders$Board", "playerKind", "[I", true)
  | 9 => ("SnakeLadders$Board", "square", "[I", true)
  | _ => ("SnakeLadders$Board", "thrown", "[I", true)
def tyX0 : Nat → FieldType := fun k => match k with
  | 0 => .int
  | 1 => .int
  | 2 => .int
  | 3 => .int
  | 4 => .array .int
  | 5 => .array .int
  | 6 => .array .int
  | 7 => .array .int
  | 8 => .array .int
  | 9 => .array .int
  | _ => .array .int
theorem nmX0 : ∀ a, a < 11 → ∀ b, b < 11 → a ≠ b → (TX0 a).2.1 ≠ (TX0 b).2.1 := by decide +kernel
theorem tyX0_ok : ∀ k, k < 11 → parseFieldDescriptor (TX0 k).2.2.1 = some (tyX0 k) := by decide +kernel
abbrev cX0_init : ByteArray := prog_2_method_1_code
def yX0_init : MethodName := ⟨RX0, "<init>", "()V"⟩
abbrev cX0_start : ByteArray := prog_2_method_2_code
def yX0_start : MethodName := ⟨RX0, "start", "(II)V"⟩
abbrev cX0_copy : ByteArray := prog_2_method_3_code
def yX0_copy : MethodName := ⟨RX0, "copy", "(LSnakeLadders$Board;)V"⟩
abbrev cX0_addLink : ByteArray := prog_2_method_4_code
def yX0_addLink : MethodName := ⟨RX0, "addLink", "(III)I"⟩
abbrev cX0_addPlayer : ByteArray := prog_2_method_5_code
def yX0_addPlayer : MethodName := ⟨RX0, "addPlayer", "(I)I"⟩
abbrev cX0_linkOn : ByteArray := prog_2_method_6_code
def yX0_linkOn : MethodName := ⟨RX0, "linkOn", "(I)I"⟩
abbrev cX0_isHome : ByteArray := prog_2_method_7_code
def yX0_isHome : MethodName := ⟨RX0, "isHome", "(I)Z"⟩
abbrev cX0_homes : ByteArray := prog_2_method_8_code
def yX0_homes : MethodName := ⟨RX0, "homes", "()I"⟩
abbrev cX0_thrownByAll : ByteArray := prog_2_method_9_code
def yX0_thrownByAll : MethodName := ⟨RX0, "thrownByAll", "()I"⟩
abbrev cX0_usedOfAll : ByteArray := prog_2_method_10_code
def yX0_usedOfAll : MethodName := ⟨RX0, "usedOfAll", "()I"⟩
abbrev cX0_landing : ByteArray := prog_2_method_11_code
def yX0_landing : MethodName := ⟨RX0, "landing", "(II)I"⟩
abbrev cX0_move : ByteArray := prog_2_method_12_code
def yX0_move : MethodName := ⟨RX0, "move", "(IILSnakeLadders$Step;)V"⟩
abbrev cX0_remember : ByteArray := prog_2_method_13_code
def yX0_remember : MethodName := ⟨RX0, "remember", "(ILSnakeLadders$Step;)V"⟩
abbrev cX0_takeBack : ByteArray := prog_2_method_14_code
def yX0_takeBack : MethodName := ⟨RX0, "takeBack", "(LSnakeLadders$Step;)V"⟩
abbrev cX0_linkMet : ByteArray := prog_2_method_15_code
def yX0_linkMet : MethodName := ⟨RX0, "linkMet", "(II)I"⟩
abbrev cX0_leadOf : ByteArray := prog_2_method_16_code
def yX0_leadOf : MethodName := ⟨RX0, "leadOf", "(II)I"⟩
def RX1 : String := "SnakeLadders$Game"
def TX1 : u_T := fun k => match k with
  | 0 => ("SnakeLadders$Game", "board", "LSnakeLadders$Board;", true)
  | 1 => ("SnakeLadders$Game", "history", "LSnakeLadders$History;", true)
  | 2 => ("SnakeLadders$Game", "notes", "LSnakeLadders$Seen;", true)
  | _ => ("SnakeLadders$Game", "marks", "LSnakeLadders$Seen;", true)
def tyX1 : Nat → FieldType := fun k => match k with
  | 0 => .object "SnakeLadders$Board"
  | 1 => .object "SnakeLadders$History"
  | 2 => .object "SnakeLadders$Seen"
  | _ => .object "SnakeLadders$Seen"
theorem nmX1 : ∀ a, a < 4 → ∀ b, b < 4 → a ≠ b → (TX1 a).2.1 ≠ (TX1 b).2.1 := by decide +kernel
theorem tyX1_ok : ∀ k, k < 4 → parseFieldDescriptor (TX1 k).2.2.1 = some (tyX1 k) := by decide +kernel
abbrev cX1_init : ByteArray := prog_3_method_1_code
def yX1_init : MethodName := ⟨RX1, "<init>", "()V"⟩
abbrev cX1_dropPast : ByteArray := prog_3_method_2_code
def yX1_dropPast : MethodName := ⟨RX1, "dropPast", "()V"⟩
abbrev cX1_copy : ByteArray := prog_3_method_3_code
def yX1_copy : MethodName := ⟨RX1, "copy", "(LSnakeLadders$Game;)V"⟩
abbrev cX1_digestOn : ByteArray := prog_3_method_4_code
def yX1_digestOn : MethodName := ⟨RX1, "digestOn", "(J)J"⟩
def RX2 : String := "SnakeLadders$Guess"
def TX2 : u_T := fun k => match k with
  | _ => ("SnakeLadders$Guess", "ends", "[I", true)
def tyX2 : Nat → FieldType := fun k => match k with
  | _ => .array .int
theorem nmX2 : ∀ a, a < 1 → ∀ b, b < 1 → a ≠ b → (TX2 a).2.1 ≠ (TX2 b).2.1 := by decide +kernel
theorem tyX2_ok : ∀ k, k < 1 → parseFieldDescriptor (TX2 k).2.2.1 = some (tyX2 k) := by decide +kernel
abbrev cX2_init : ByteArray := prog_4_method_1_code
def yX2_init : MethodName := ⟨RX2, "<init>", "()V"⟩
abbrev cX2_linkKinds : ByteArray := prog_4_method_2_code
def yX2_linkKinds : MethodName := ⟨RX2, "linkKinds", "(LSnakeLadders$Board;LSnakeLadders$Seen;I)I"⟩
abbrev cX2_fitsNotes : ByteArray := prog_4_method_3_code
def yX2_fitsNotes : MethodName := ⟨RX2, "fitsNotes", "(LSnakeLadders$Board;LSnakeLadders$Seen;II)Z"⟩
abbrev cX2_lead : ByteArray := prog_4_method_4_code
def yX2_lead : MethodName := ⟨RX2, "lead", "(LSnakeLadders$Board;IIII)I"⟩
abbrev cX2_bestLook : ByteArray := prog_4_method_5_code
def yX2_bestLook : MethodName := ⟨RX2, "bestLook", "(LSnakeLadders$Board;LSnakeLadders$Seen;I)I"⟩
abbrev cX2_playerKinds : ByteArray := prog_4_method_6_code
def yX2_playerKinds : MethodName := ⟨RX2, "playerKinds", "(LSnakeLadders$Board;LSnakeLadders$Seen;I)I"⟩
abbrev cX2_fitsMarks : ByteArray := prog_4_method_7_code
def yX2_fitsMarks : MethodName := ⟨RX2, "fitsMarks", "(LSnakeLadders$Board;LSnakeLadders$Seen;II)Z"⟩
abbrev cX2_bestAsk : ByteArray := prog_4_method_8_code
def yX2_bestAsk : MethodName := ⟨RX2, "bestAsk", "(LSnakeLadders$Board;LSnakeLadders$Seen;I)I"⟩
abbrev cX2_mostAlike : ByteArray := prog_4_method_9_code
def yX2_mostAlike : MethodName := ⟨RX2, "mostAlike", "(I)I"⟩
abbrev cX2_alikeTo : ByteArray := prog_4_method_10_code
def yX2_alikeTo : MethodName := ⟨RX2, "alikeTo", "(II)I"⟩
def RX3 : String := "SnakeLadders$History"
def TX3 : u_T := fun k => match k with
  | 0 => ("SnakeLadders$History", "size", "I", false)
  | _ => ("SnakeLadders$History", "steps", "[LSnakeLadders$Step;", true)
def tyX3 : Nat → FieldType := fun k => match k with
  | 0 => .int
  | _ => .array (.object "SnakeLadders$Step")
theorem nmX3 : ∀ a, a < 2 → ∀ b, b < 2 → a ≠ b → (TX3 a).2.1 ≠ (TX3 b).2.1 := by decide +kernel
theorem tyX3_ok : ∀ k, k < 2 → parseFieldDescriptor (TX3 k).2.2.1 = some (tyX3 k) := by decide +kernel
abbrev cX3_init : ByteArray := prog_5_method_1_code
def yX3_init : MethodName := ⟨RX3, "<init>", "()V"⟩
abbrev cX3_manySteps : ByteArray := prog_5_method_2_code
def yX3_manySteps : MethodName := ⟨RX3, "manySteps", "(I)[LSnakeLadders$Step;"⟩
abbrev cX3_empty : ByteArray := prog_5_method_3_code
def yX3_empty : MethodName := ⟨RX3, "empty", "()V"⟩
abbrev cX3_nextStep : ByteArray := prog_5_method_4_code
def yX3_nextStep : MethodName := ⟨RX3, "nextStep", "()LSnakeLadders$Step;"⟩
abbrev cX3_dropOldest : ByteArray := prog_5_method_5_code
def yX3_dropOldest : MethodName := ⟨RX3, "dropOldest", "()V"⟩
abbrev cX3_takeBack : ByteArray := prog_5_method_6_code
def yX3_takeBack : MethodName := ⟨RX3, "takeBack", "(LSnakeLadders$Board;)V"⟩
abbrev cX3_copy : ByteArray := prog_5_method_7_code
def yX3_copy : MethodName := ⟨RX3, "copy", "(LSnakeLadders$History;)V"⟩
def RX4 : String := "SnakeLadders$LinkKinds"
def TX4 : u_T := fun k => match k with
  | _ => ("", "", "", false)
def tyX4 : Nat → FieldType := fun k => match k with
  | _ => .int
theorem nmX4 : ∀ a, a < 0 → ∀ b, b < 0 → a ≠ b → (TX4 a).2.1 ≠ (TX4 b).2.1 := by decide +kernel
theorem tyX4_ok : ∀ k, k < 0 → parseFieldDescriptor (TX4 k).2.2.1 = some (tyX4 k) := by decide +kernel
abbrev cX4_square : ByteArray := prog_6_method_2_code
def yX4_square : MethodName := ⟨RX4, "square", "(IIIIII)I"⟩
def RX5 : String := "SnakeLadders$Outlook"
def TX5 : u_T := fun k => match k with
  | 0 => ("SnakeLadders$Outlook", "board", "LSnakeLadders$Board;", true)
  | 1 => ("SnakeLadders$Outlook", "steps", "[LSnakeLadders$Step;", true)
  | 2 => ("SnakeLadders$Outlook", "rowsOn", "[I", true)
  | 3 => ("SnakeLadders$Outlook", "row", "[I", true)
  | 4 => ("SnakeLadders$Outlook", "gainA", "[I", true)
  | 5 => ("SnakeLadders$Outlook", "gainB", "[I", true)
  | 6 => ("SnakeLadders$Outlook", "best", "I", false)
  | _ => ("SnakeLadders$Outlook", "bestRows", "I", false)
def tyX5 : Nat → FieldType := fun k => match k with
  | 0 => .object "SnakeLadders$Board"
  | 1 => .array (.object "SnakeLadders$Step")
  | 2 => .array .int
  | 3 => .array .int
  | 4 => .array .int
  | 5 => .array .int
  | 6 => .int
  | _ => .int
theorem nmX5 : ∀ a, a < 8 → ∀ b, b < 8 → a ≠ b → (TX5 a).2.1 ≠ (TX5 b).2.1 := by decide +kernel
theorem tyX5_ok : ∀ k, k < 8 → parseFieldDescriptor (TX5 k).2.2.1 = some (tyX5 k) := by decide +kernel
abbrev cX5_init : ByteArray := prog_7_method_1_code
def yX5_init : MethodName := ⟨RX5, "<init>", "()V"⟩
abbrev cX5_fewest : ByteArray := prog_7_method_2_code
def yX5_fewest : MethodName := ⟨RX5, "fewest", "(LSnakeLadders$Board;I)I"⟩
abbrev cX5_rowAt : ByteArray := prog_7_method_3_code
def yX5_rowAt : MethodName := ⟨RX5, "rowAt", "(I)I"⟩
abbrev cX5_findRow : ByteArray := prog_7_method_4_code
def yX5_findRow : MethodName := ⟨RX5, "findRow", "(LSnakeLadders$Outlook;III)Z"⟩
abbrev cX5_spread : ByteArray := prog_7_method_5_code
def yX5_spread : MethodName := ⟨RX5, "spread", "(LSnakeLadders$Board;II)V"⟩
abbrev cX5_rowsHome : ByteArray := prog_7_method_6_code
def yX5_rowsHome : MethodName := ⟨RX5, "rowsHome", "()I"⟩
abbrev cX5_sumOfSquares : ByteArray := prog_7_method_7_code
def yX5_sumOfSquares : MethodName := ⟨RX5, "sumOfSquares", "()J"⟩
abbrev cX5_unlikeSquares : ByteArray := prog_7_method_8_code
def yX5_unlikeSquares : MethodName := ⟨RX5, "unlikeSquares", "()I"⟩
abbrev cX5_leastSquare : ByteArray := prog_7_method_9_code
def yX5_leastSquare : MethodName := ⟨RX5, "leastSquare", "()I"⟩
abbrev cX5_greatestSquare : ByteArray := prog_7_method_10_code
def yX5_greatestSquare : MethodName := ⟨RX5, "greatestSquare", "()I"⟩
abbrev cX5_findBestSquare : ByteArray := prog_7_method_11_code
def yX5_findBestSquare : MethodName := ⟨RX5, "findBestSquare", "(LSnakeLadders$Board;II)V"⟩
abbrev cX5_findWorstLink : ByteArray := prog_7_method_12_code
def yX5_findWorstLink : MethodName := ⟨RX5, "findWorstLink", "(LSnakeLadders$Board;II)V"⟩
abbrev cX5_spreadFrom : ByteArray := prog_7_method_13_code
def yX5_spreadFrom : MethodName := ⟨RX5, "spreadFrom", "(III)V"⟩
abbrev cX5_spreadOn : ByteArray := prog_7_method_14_code
def yX5_spreadOn : MethodName := ⟨RX5, "spreadOn", "(LSnakeLadders$Outlook;III)V"⟩
abbrev cX5_addRows : ByteArray := prog_7_method_15_code
def yX5_addRows : MethodName := ⟨RX5, "addRows", "(II)V"⟩
abbrev cX5_rowsAhead : ByteArray := prog_7_method_16_code
def yX5_rowsAhead : MethodName := ⟨RX5, "rowsAhead", "(LSnakeLadders$Board;III)I"⟩
abbrev cX5_rowsAheadOn : ByteArray := prog_7_method_17_code
def yX5_rowsAheadOn : MethodName := ⟨RX5, "rowsAheadOn", "(LSnakeLadders$Outlook;IIII)I"⟩
abbrev cX5_weighPairs : ByteArray := prog_7_method_18_code
def yX5_weighPairs : MethodName := ⟨RX5, "weighPairs", "(LSnakeLadders$Board;II)V"⟩
abbrev cX5_restingPairs : ByteArray := prog_7_method_19_code
def yX5_restingPairs : MethodName := ⟨RX5, "restingPairs", "()I"⟩
abbrev cX5_restingPair : ByteArray := prog_7_method_20_code
def yX5_restingPair : MethodName := ⟨RX5, "restingPair", "(I)I"⟩
abbrev cX5_moveUnlessHome : ByteArray := prog_7_method_21_code
def yX5_moveUnlessHome : MethodName := ⟨RX5, "moveUnlessHome", "(IILSnakeLadders$Step;)V"⟩
abbrev cX5_gain : ByteArray := prog_7_method_22_code
def yX5_gain : MethodName := ⟨RX5, "gain", "(IIZ)I"⟩
abbrev cX5_rests : ByteArray := prog_7_method_23_code
def yX5_rests : MethodName := ⟨RX5, "rests", "(II)Z"⟩
abbrev cX5_pairAt : ByteArray := prog_7_method_24_code
def yX5_pairAt : MethodName := ⟨RX5, "pairAt", "(II)I"⟩
abbrev cX5_homesBySeed : ByteArray := prog_7_method_25_code
def yX5_homesBySeed : MethodName := ⟨RX5, "homesBySeed", "(LSnakeLadders$Board;II)I"⟩
def RX6 : String := "SnakeLadders$PlayerKinds"
def TX6 : u_T := fun k => match k with
  | _ => ("", "", "", false)
def tyX6 : Nat → FieldType := fun k => match k with
  | _ => .int
theorem nmX6 : ∀ a, a < 0 → ∀ b, b < 0 → a ≠ b → (TX6 a).2.1 ≠ (TX6 b).2.1 := by decide +kernel
theorem tyX6_ok : ∀ k, k < 0 → parseFieldDescriptor (TX6 k).2.2.1 = some (tyX6 k) := by decide +kernel
abbrev cX6_square : ByteArray := prog_8_method_2_code
def yX6_square : MethodName := ⟨RX6, "square", "(IIII)I"⟩
abbrev cX6_plain : ByteArray := prog_8_method_3_code
def yX6_plain : MethodName := ⟨RX6, "plain", "(III)I"⟩
abbrev cX6_timidly : ByteArray := prog_8_method_4_code
def yX6_timidly : MethodName := ⟨RX6, "timidly", "(I)I"⟩
abbrev cX6_cheated : ByteArray := prog_8_method_5_code
def yX6_cheated : MethodName := ⟨RX6, "cheated", "(I)I"⟩
def RX7 : String := "SnakeLadders$Seen"
def TX7 : u_T := fun k => match k with
  | 0 => ("SnakeLadders$Seen", "size", "I", false)
  | 1 => ("SnakeLadders$Seen", "who", "[I", true)
  | 2 => ("SnakeLadders$Seen", "before", "[I", true)
  | 3 => ("SnakeLadders$Seen", "by", "[I", true)
  | _ => ("SnakeLadders$Seen", "to", "[I", true)
def tyX7 : Nat → FieldType := fun k => match k with
  | 0 => .int
  | 1 => .array .int
  | 2 => .array .int
  | 3 => .array .int
  | _ => .array .int
theorem nmX7 : ∀ a, a < 5 → ∀ b, b < 5 → a ≠ b → (TX7 a).2.1 ≠ (TX7 b).2.1 := by decide +kernel
theorem tyX7_ok : ∀ k, k < 5 → parseFieldDescriptor (TX7 k).2.2.1 = some (tyX7 k) := by decide +kernel
abbrev cX7_init : ByteArray := prog_9_method_1_code
def yX7_init : MethodName := ⟨RX7, "<init>", "()V"⟩
abbrev cX7_add : ByteArray := prog_9_method_2_code
def yX7_add : MethodName := ⟨RX7, "add", "(IIII)I"⟩
abbrev cX7_empty : ByteArray := prog_9_method_3_code
def yX7_empty : MethodName := ⟨RX7, "empty", "()I"⟩
abbrev cX7_copy : ByteArray := prog_9_method_4_code
def yX7_copy : MethodName := ⟨RX7, "copy", "(LSnakeLadders$Seen;)V"⟩
abbrev cX7_digestOn : ByteArray := prog_9_method_5_code
def yX7_digestOn : MethodName := ⟨RX7, "digestOn", "(J)J"⟩
def RX8 : String := "SnakeLadders$Step"
def TX8 : u_T := fun k => match k with
  | 0 => ("SnakeLadders$Step", "player", "I", false)
  | 1 => ("SnakeLadders$Step", "square", "I", false)
  | 2 => ("SnakeLadders$Step", "thrown", "I", false)
  | 3 => ("SnakeLadders$Step", "link", "I", false)
  | _ => ("SnakeLadders$Step", "used", "I", false)
def tyX8 : Nat → FieldType := fun k => match k with
  | 0 => .int
  | 1 => .int
  | 2 => .int
  | 3 => .int
  | _ => .int
theorem nmX8 : ∀ a, a < 5 → ∀ b, b < 5 → a ≠ b → (TX8 a).2.1 ≠ (TX8 b).2.1 := by decide +kernel
theorem tyX8_ok : ∀ k, k < 5 → parseFieldDescriptor (TX8 k).2.2.1 = some (tyX8 k) := by decide +kernel
abbrev cX8_init : ByteArray := prog_10_method_1_code
def yX8_init : MethodName := ⟨RX8, "<init>", "()V"⟩
abbrev cX8_copy : ByteArray := prog_10_method_2_code
def yX8_copy : MethodName := ⟨RX8, "copy", "(LSnakeLadders$Step;)V"⟩
def RX9 : String := "SnakeLadders$TextReader"
def TX9 : u_T := fun k => match k with
  | 0 => ("SnakeLadders$TextReader", "length", "I", false)
  | 1 => ("SnakeLadders$TextReader", "draft", "LSnakeLadders$Board;", true)
  | 2 => ("SnakeLadders$TextReader", "bytes", "[B", true)
  | 3 => ("SnakeLadders$TextReader", "step", "LSnakeLadders$Step;", true)
  | 4 => ("SnakeLadders$TextReader", "token", "I", false)
  | 5 => ("SnakeLadders$TextReader", "tokenStart", "I", false)
  | 6 => ("SnakeLadders$TextReader", "tokenEnd", "I", false)
  | _ => ("SnakeLadders$TextReader", "number", "I", false)
def tyX9 : Nat → FieldType := fun k => match k with
  | 0 => .int
  | 1 => .object "SnakeLadders$Board"
  | 2 => .array .byte
  | 3 => .object "SnakeLadders$Step"
  | 4 => .int
  | 5 => .int
  | 6 => .int
  | _ => .int
theorem nmX9 : ∀ a, a < 8 → ∀ b, b < 8 → a ≠ b → (TX9 a).2.1 ≠ (TX9 b).2.1 := by decide +kernel
theorem tyX9_ok : ∀ k, k < 8 → parseFieldDescriptor (TX9 k).2.2.1 = some (tyX9 k) := by decide +kernel
abbrev cX9_init : ByteArray := prog_11_method_1_code
def yX9_init : MethodName := ⟨RX9, "<init>", "()V"⟩
abbrev cX9_append : ByteArray := prog_11_method_2_code
def yX9_append : MethodName := ⟨RX9, "append", "(I)I"⟩
abbrev cX9_empty : ByteArray := prog_11_method_3_code
def yX9_empty : MethodName := ⟨RX9, "empty", "()I"⟩
abbrev cX9_fault : ByteArray := prog_11_method_4_code
def yX9_fault : MethodName := ⟨RX9, "fault", "()I"⟩
abbrev cX9_readItems : ByteArray := prog_11_method_5_code
def yX9_readItems : MethodName := ⟨RX9, "readItems", "()I"⟩
abbrev cX9_boardItem : ByteArray := prog_11_method_6_code
def yX9_boardItem : MethodName := ⟨RX9, "boardItem", "()Z"⟩
abbrev cX9_laterItem : ByteArray := prog_11_method_7_code
def yX9_laterItem : MethodName := ⟨RX9, "laterItem", "()Z"⟩
abbrev cX9_linkItem : ByteArray := prog_11_method_8_code
def yX9_linkItem : MethodName := ⟨RX9, "linkItem", "()Z"⟩
abbrev cX9_playerItem : ByteArray := prog_11_method_9_code
def yX9_playerItem : MethodName := ⟨RX9, "playerItem", "()Z"⟩
abbrev cX9_setItem : ByteArray := prog_11_method_10_code
def yX9_setItem : MethodName := ⟨RX9, "setItem", "()Z"⟩
abbrev cX9_throwItem : ByteArray := prog_11_method_11_code
def yX9_throwItem : MethodName := ⟨RX9, "throwItem", "()Z"⟩
abbrev cX9_nextNumber : ByteArray := prog_11_method_12_code
def yX9_nextNumber : MethodName := ⟨RX9, "nextNumber", "(II)Z"⟩
abbrev cX9_isNumber : ByteArray := prog_11_method_13_code
def yX9_isNumber : MethodName := ⟨RX9, "isNumber", "(II)Z"⟩
abbrev cX9_nextSemicolon : ByteArray := prog_11_method_14_code
def yX9_nextSemicolon : MethodName := ⟨RX9, "nextSemicolon", "()Z"⟩
abbrev cX9_isWord : ByteArray := prog_11_method_15_code
def yX9_isWord : MethodName := ⟨RX9, "isWord", "(Ljava/lang/String;)Z"⟩
abbrev cX9_nextToken : ByteArray := prog_11_method_16_code
def yX9_nextToken : MethodName := ⟨RX9, "nextToken", "()V"⟩
abbrev cX9_valueOf : ByteArray := prog_11_method_17_code
def yX9_valueOf : MethodName := ⟨RX9, "valueOf", "(I)I"⟩
abbrev cX9_runEnd : ByteArray := prog_11_method_18_code
def yX9_runEnd : MethodName := ⟨RX9, "runEnd", "(III)I"⟩
abbrev cX9_byteAt : ByteArray := prog_11_method_19_code
def yX9_byteAt : MethodName := ⟨RX9, "byteAt", "(I)I"⟩
def RX10 : String := "SnakeLadders"
def TX10 : u_T := fun k => match k with
  | 0 => ("SnakeLadders", "game", "LSnakeLadders$Game;", true)
  | 1 => ("SnakeLadders", "images", "[LSnakeLadders$Game;", true)
  | 2 => ("SnakeLadders", "kept", "[Z", true)
  | 3 => ("SnakeLadders", "text", "LSnakeLadders$TextReader;", true)
  | 4 => ("SnakeLadders", "outlook", "LSnakeLadders$Outlook;", true)
  | 5 => ("SnakeLadders", "guess", "LSnakeLadders$Guess;", true)
  | 6 => ("SnakeLadders", "above", "J", false)
  | 7 => ("SnakeLadders", "below", "J", false)
  | 8 => ("SnakeLadders", "bads", "I", false)
  | 9 => ("SnakeLadders", "noes", "I", false)
  | _ => ("SnakeLadders", "fulls", "I", false)
def tyX10 : Nat → FieldType := fun k => match k with
  | 0 => .object "SnakeLadders$Game"
  | 1 => .array (.object "SnakeLadders$Game")
  | 2 => .array .boolean
  | 3 => .object "SnakeLadders$TextReader"
  | 4 => .object "SnakeLadders$Outlook"
  | 5 => .object "SnakeLadders$Guess"
  | 6 => .long
  | 7 => .long
  | 8 => .int
  | 9 => .int
  | _ => .int
theorem nmX10 : ∀ a, a < 11 → ∀ b, b < 11 → a ≠ b → (TX10 a).2.1 ≠ (TX10 b).2.1 := by decide +kernel
theorem tyX10_ok : ∀ k, k < 11 → parseFieldDescriptor (TX10 k).2.2.1 = some (tyX10 k) := by decide +kernel
abbrev cX10_init : ByteArray := prog_1_method_1_code
def yX10_init : MethodName := ⟨RX10, "<init>", "()V"⟩
abbrev cX10_board : ByteArray := prog_1_method_2_code
def yX10_board : MethodName := ⟨RX10, "board", "(II)I"⟩
abbrev cX10_die : ByteArray := prog_1_method_3_code
def yX10_die : MethodName := ⟨RX10, "die", "(I)I"⟩
abbrev cX10_link : ByteArray := prog_1_method_4_code
def yX10_link : MethodName := ⟨RX10, "link", "(III)I"⟩
abbrev cX10_player : ByteArray := prog_1_method_5_code
def yX10_player : MethodName := ⟨RX10, "player", "(I)I"⟩
abbrev cX10_type : ByteArray := prog_1_method_6_code
def yX10_type : MethodName := ⟨RX10, "type", "(I)I"⟩
abbrev cX10_clear : ByteArray := prog_1_method_7_code
def yX10_clear : MethodName := ⟨RX10, "clear", "()I"⟩
abbrev cX10_read : ByteArray := prog_1_method_8_code
def yX10_read : MethodName := ⟨RX10, "read", "()I"⟩
abbrev cX10_rolls : ByteArray := prog_1_method_9_code
def yX10_rolls : MethodName := ⟨RX10, "rolls", "(II)I"⟩
abbrev cX10_sets : ByteArray := prog_1_method_10_code
def yX10_sets : MethodName := ⟨RX10, "sets", "(II)I"⟩
abbrev cX10_undo : ByteArray := prog_1_method_11_code
def yX10_undo : MethodName := ⟨RX10, "undo", "()I"⟩
abbrev cX10_of : ByteArray := prog_1_method_12_code
def yX10_of : MethodName := ⟨RX10, "of", "(II)I"⟩
abbrev cX10_about : ByteArray := prog_1_method_13_code
def yX10_about : MethodName := ⟨RX10, "about", "(II)I"⟩
abbrev cX10_goes : ByteArray := prog_1_method_14_code
def yX10_goes : MethodName := ⟨RX10, "goes", "(II)I"⟩
abbrev cX10_few : ByteArray := prog_1_method_15_code
def yX10_few : MethodName := ⟨RX10, "few", "(II)I"⟩
abbrev cX10_home : ByteArray := prog_1_method_16_code
def yX10_home : MethodName := ⟨RX10, "home", "(II)I"⟩
abbrev cX10_mean : ByteArray := prog_1_method_17_code
def yX10_mean : MethodName := ⟨RX10, "mean", "(II)I"⟩
abbrev cX10_ahead : ByteArray := prog_1_method_18_code
def yX10_ahead : MethodName := ⟨RX10, "ahead", "(III)I"⟩
abbrev cX10_rather : ByteArray := prog_1_method_19_code
def yX10_rather : MethodName := ⟨RX10, "rather", "(III)I"⟩
abbrev cX10_without : ByteArray := prog_1_method_20_code
def yX10_without : MethodName := ⟨RX10, "without", "(III)I"⟩
abbrev cX10_span : ByteArray := prog_1_method_21_code
def yX10_span : MethodName := ⟨RX10, "span", "(III)I"⟩
abbrev cX10_note : ByteArray := prog_1_method_22_code
def yX10_note : MethodName := ⟨RX10, "note", "(IIII)I"⟩
abbrev cX10_mark : ByteArray := prog_1_method_23_code
def yX10_mark : MethodName := ⟨RX10, "mark", "(IIII)I"⟩
abbrev cX10_forget : ByteArray := prog_1_method_24_code
def yX10_forget : MethodName := ⟨RX10, "forget", "(I)I"⟩
abbrev cX10_is : ByteArray := prog_1_method_25_code
def yX10_is : MethodName := ⟨RX10, "is", "(I)I"⟩
abbrev cX10_look : ByteArray := prog_1_method_26_code
def yX10_look : MethodName := ⟨RX10, "look", "(I)I"⟩
abbrev cX10_kinds : ByteArray := prog_1_method_27_code
def yX10_kinds : MethodName := ⟨RX10, "kinds", "(I)I"⟩
abbrev cX10_ask : ByteArray := prog_1_method_28_code
def yX10_ask : MethodName := ⟨RX10, "ask", "(I)I"⟩
abbrev cX10_choice : ByteArray := prog_1_method_29_code
def yX10_choice : MethodName := ⟨RX10, "choice", "(III)I"⟩
abbrev cX10_evenings : ByteArray := prog_1_method_30_code
def yX10_evenings : MethodName := ⟨RX10, "evenings", "(II)I"⟩
abbrev cX10_part : ByteArray := prog_1_method_31_code
def yX10_part : MethodName := ⟨RX10, "part", "(I)J"⟩
abbrev cX10_image : ByteArray := prog_1_method_32_code
def yX10_image : MethodName := ⟨RX10, "image", "(I)I"⟩
abbrev cX10_from : ByteArray := prog_1_method_33_code
def yX10_from : MethodName := ⟨RX10, "from", "(I)I"⟩
abbrev cX10_status : ByteArray := prog_1_method_34_code
def yX10_status : MethodName := ⟨RX10, "status", "(I)I"⟩
abbrev cX10_count : ByteArray := prog_1_method_35_code
def yX10_count : MethodName := ⟨RX10, "count", "(I)I"⟩
abbrev cX10_digest : ByteArray := prog_1_method_36_code
def yX10_digest : MethodName := ⟨RX10, "digest", "()J"⟩
abbrev cX10_amount : ByteArray := prog_1_method_37_code
def yX10_amount : MethodName := ⟨RX10, "amount", "(I)I"⟩
abbrev cX10_refuse : ByteArray := prog_1_method_38_code
def yX10_refuse : MethodName := ⟨RX10, "refuse", "(I)I"⟩
abbrev cX10_refuseByTen : ByteArray := prog_1_method_39_code
def yX10_refuseByTen : MethodName := ⟨RX10, "refuseByTen", "()I"⟩
abbrev cX10_isPlayer : ByteArray := prog_1_method_40_code
def yX10_isPlayer : MethodName := ⟨RX10, "isPlayer", "(I)Z"⟩
abbrev cX10_isLink : ByteArray := prog_1_method_41_code
def yX10_isLink : MethodName := ⟨RX10, "isLink", "(I)Z"⟩
abbrev cX10_areUnlikePlayers : ByteArray := prog_1_method_42_code
def yX10_areUnlikePlayers : MethodName := ⟨RX10, "areUnlikePlayers", "(II)Z"⟩
abbrev cX10_keepFraction : ByteArray := prog_1_method_43_code
def yX10_keepFraction : MethodName := ⟨RX10, "keepFraction", "(JJ)I"⟩
abbrev cX10_within : ByteArray := prog_1_method_44_code
def yX10_within : MethodName := ⟨RX10, "within", "(III)Z"⟩
abbrev cX10_power : ByteArray := prog_1_method_45_code
def yX10_power : MethodName := ⟨RX10, "power", "(II)I"⟩
abbrev cX10_commonDivisor : ByteArray := prog_1_method_46_code
def yX10_commonDivisor : MethodName := ⟨RX10, "commonDivisor", "(JJ)J"⟩
abbrev cX10_leftOver : ByteArray := prog_1_method_47_code
def yX10_leftOver : MethodName := ⟨RX10, "leftOver", "(JI)I"⟩
def RX11 : String := "SnakeLaddersModel"
def TX11 : u_T := fun k => match k with
  | 0 => ("SnakeLaddersModel", "w", "[I", true)
  | 1 => ("SnakeLaddersModel", "isKept", "[Z", true)
  | 2 => ("SnakeLaddersModel", "text", "[I", true)
  | 3 => ("SnakeLaddersModel", "texted", "I", false)
  | 4 => ("SnakeLaddersModel", "above", "J", false)
  | 5 => ("SnakeLaddersModel", "below", "J", false)
  | 6 => ("SnakeLaddersModel", "statuses", "[I", true)
  | 7 => ("SnakeLaddersModel", "at", "I", false)
  | 8 => ("SnakeLaddersModel", "start", "I", false)
  | 9 => ("SnakeLaddersModel", "number", "I", false)
  | 10 => ("SnakeLaddersModel", "isCome", "[Z", true)
  | 11 => ("SnakeLaddersModel", "gainA", "[I", true)
  | 12 => ("SnakeLaddersModel", "gainB", "[I", true)
  | _ => ("SnakeLaddersModel", "h", "J", false)
def tyX11 : Nat → FieldType := fun k => match k with
  | 0 => .array .int
  | 1 => .array .boolean
  | 2 => .array .int
  | 3 => .int
  | 4 => .long
  | 5 => .long
  | 6 => .array .int
  | 7 => .int
  | 8 => .int
  | 9 => .int
  | 10 => .array .boolean
  | 11 => .array .int
  | 12 => .array .int
  | _ => .long
theorem nmX11 : ∀ a, a < 14 → ∀ b, b < 14 → a ≠ b → (TX11 a).2.1 ≠ (TX11 b).2.1 := by decide +kernel
theorem tyX11_ok : ∀ k, k < 14 → parseFieldDescriptor (TX11 k).2.2.1 = some (tyX11 k) := by decide +kernel
abbrev cX11_init : ByteArray := prog_13_method_1_code
def yX11_init : MethodName := ⟨RX11, "<init>", "()V"⟩
abbrev cX11_in : ByteArray := prog_13_method_3_code
def yX11_in : MethodName := ⟨RX11, "in", "(JJJ)Z"⟩
abbrev cX11_has : ByteArray := prog_13_method_4_code
def yX11_has : MethodName := ⟨RX11, "has", "(II)Z"⟩
abbrev cX11_bad : ByteArray := prog_13_method_5_code
def yX11_bad : MethodName := ⟨RX11, "bad", "(I)I"⟩
abbrev cX11_no : ByteArray := prog_13_method_6_code
def yX11_no : MethodName := ⟨RX11, "no", "()I"⟩
abbrev cX11_full : ByteArray := prog_13_method_7_code
def yX11_full : MethodName := ⟨RX11, "full", "()I"⟩
abbrev cX11_copy : ByteArray := prog_13_method_8_code
def yX11_copy : MethodName := ⟨RX11, "copy", "(II)V"⟩
abbrev cX11_empties : ByteArray := prog_13_method_9_code
def yX11_empties : MethodName := ⟨RX11, "empties", "(I)V"⟩
abbrev cX11_isPlayer : ByteArray := prog_13_method_10_code
def yX11_isPlayer : MethodName := ⟨RX11, "isPlayer", "(I)Z"⟩
abbrev cX11_isLink : ByteArray := prog_13_method_11_code
def yX11_isLink : MethodName := ⟨RX11, "isLink", "(I)Z"⟩
abbrev cX11_isSide : ByteArray := prog_13_method_12_code
def yX11_isSide : MethodName := ⟨RX11, "isSide", "(I)Z"⟩
abbrev cX11_isSquare : ByteArray := prog_13_method_13_code
def yX11_isSquare : MethodName := ⟨RX11, "isSquare", "(I)Z"⟩
abbrev cX11_plain : ByteArray := prog_13_method_14_code
def yX11_plain : MethodName := ⟨RX11, "plain", "(III)I"⟩
abbrev cX11_timid : ByteArray := prog_13_method_15_code
def yX11_timid : MethodName := ⟨RX11, "timid", "(III)I"⟩
abbrev cX11_cheat : ByteArray := prog_13_method_16_code
def yX11_cheat : MethodName := ⟨RX11, "cheat", "(III)I"⟩
abbrev cX11_goesBy : ByteArray := prog_13_method_17_code
def yX11_goesBy : MethodName := ⟨RX11, "goesBy", "(IIII)I"⟩
abbrev cX11_greased : ByteArray := prog_13_method_18_code
def yX11_greased : MethodName := ⟨RX11, "greased", "(I)I"⟩
abbrev cX11_leadsBy : ByteArray := prog_13_method_19_code
def yX11_leadsBy : MethodName := ⟨RX11, "leadsBy", "(IIIIII)I"⟩
abbrev cX11_linkFrom : ByteArray := prog_13_method_20_code
def yX11_linkFrom : MethodName := ⟨RX11, "linkFrom", "(II)I"⟩
abbrev cX11_isHome : ByteArray := prog_13_method_21_code
def yX11_isHome : MethodName := ⟨RX11, "isHome", "(II)Z"⟩
abbrev cX11_homes : ByteArray := prog_13_method_22_code
def yX11_homes : MethodName := ⟨RX11, "homes", "(I)I"⟩
abbrev cX11_throwsOne : ByteArray := prog_13_method_23_code
def yX11_throwsOne : MethodName := ⟨RX11, "throwsOne", "(III)V"⟩
abbrev cX11_addsLink : ByteArray := prog_13_method_24_code
def yX11_addsLink : MethodName := ⟨RX11, "addsLink", "(IIII)V"⟩
abbrev cX11_addsPlayer : ByteArray := prog_13_method_25_code
def yX11_addsPlayer : MethodName := ⟨RX11, "addsPlayer", "(II)V"⟩
abbrev cX11_board : ByteArray := prog_13_method_26_code
def yX11_board : MethodName := ⟨RX11, "board", "(II)I"⟩
abbrev cX11_die : ByteArray := prog_13_method_27_code
def yX11_die : MethodName := ⟨RX11, "die", "(I)I"⟩
abbrev cX11_link : ByteArray := prog_13_method_28_code
def yX11_link : MethodName := ⟨RX11, "link", "(III)I"⟩
abbrev cX11_player : ByteArray := prog_13_method_29_code
def yX11_player : MethodName := ⟨RX11, "player", "(I)I"⟩
abbrev cX11_type : ByteArray := prog_13_method_30_code
def yX11_type : MethodName := ⟨RX11, "type", "(I)I"⟩
abbrev cX11_clear : ByteArray := prog_13_method_31_code
def yX11_clear : MethodName := ⟨RX11, "clear", "()I"⟩
abbrev cX11_byteAt : ByteArray := prog_13_method_32_code
def yX11_byteAt : MethodName := ⟨RX11, "byteAt", "(I)I"⟩
abbrev cX11_blanks : ByteArray := prog_13_method_33_code
def yX11_blanks : MethodName := ⟨RX11, "blanks", "()V"⟩
abbrev cX11_takesWord : ByteArray := prog_13_method_34_code
def yX11_takesWord : MethodName := ⟨RX11, "takesWord", "()V"⟩
abbrev cX11_isWord : ByteArray := prog_13_method_35_code
def yX11_isWord : MethodName := ⟨RX11, "isWord", "(IIIIII)Z"⟩
abbrev cX11_isLetter : ByteArray := prog_13_method_36_code
def yX11_isLetter : MethodName := ⟨RX11, "isLetter", "(III)Z"⟩
abbrev cX11_wordOf : ByteArray := prog_13_method_37_code
def yX11_wordOf : MethodName := ⟨RX11, "wordOf", "()I"⟩
abbrev cX11_takesNumber : ByteArray := prog_13_method_38_code
def yX11_takesNumber : MethodName := ⟨RX11, "takesNumber", "(II)Z"⟩
abbrev cX11_takesEnd : ByteArray := prog_13_method_39_code
def yX11_takesEnd : MethodName := ⟨RX11, "takesEnd", "()Z"⟩
abbrev cX11_readsBoard : ByteArray := prog_13_method_40_code
def yX11_readsBoard : MethodName := ⟨RX11, "readsBoard", "()Z"⟩
abbrev cX11_readsLink : ByteArray := prog_13_method_41_code
def yX11_readsLink : MethodName := ⟨RX11, "readsLink", "()Z"⟩
abbrev cX11_readsPlayer : ByteArray := prog_13_method_42_code
def yX11_readsPlayer : MethodName := ⟨RX11, "readsPlayer", "()Z"⟩
abbrev cX11_readsSet : ByteArray := prog_13_method_43_code
def yX11_readsSet : MethodName := ⟨RX11, "readsSet", "()Z"⟩
abbrev cX11_readsThrows : ByteArray := prog_13_method_44_code
def yX11_readsThrows : MethodName := ⟨RX11, "readsThrows", "()Z"⟩
abbrev cX11_readsItem : ByteArray := prog_13_method_45_code
def yX11_readsItem : MethodName := ⟨RX11, "readsItem", "(Z)Z"⟩
abbrev cX11_read : ByteArray := prog_13_method_46_code
def yX11_read : MethodName := ⟨RX11, "read", "()I"⟩
abbrev cX11_minds : ByteArray := prog_13_method_47_code
def yX11_minds : MethodName := ⟨RX11, "minds", "()V"⟩
abbrev cX11_rolls : ByteArray := prog_13_method_48_code
def yX11_rolls : MethodName := ⟨RX11, "rolls", "(II)I"⟩
abbrev cX11_sets : ByteArray := prog_13_method_49_code
def yX11_sets : MethodName := ⟨RX11, "sets", "(II)I"⟩
abbrev cX11_undo : ByteArray := prog_13_method_50_code
def yX11_undo : MethodName := ⟨RX11, "undo", "()I"⟩
abbrev cX11_of : ByteArray := prog_13_method_51_code
def yX11_of : MethodName := ⟨RX11, "of", "(II)I"⟩
abbrev cX11_about : ByteArray := prog_13_method_52_code
def yX11_about : MethodName := ⟨RX11, "about", "(II)I"⟩
abbrev cX11_tries : ByteArray := prog_13_method_53_code
def yX11_tries : MethodName := ⟨RX11, "tries", "()V"⟩
abbrev cX11_rollsTried : ByteArray := prog_13_method_54_code
def yX11_rollsTried : MethodName := ⟨RX11, "rollsTried", "(II)V"⟩
abbrev cX11_rowsOf : ByteArray := prog_13_method_55_code
def yX11_rowsOf : MethodName := ⟨RX11, "rowsOf", "(I)I"⟩
abbrev cX11_plays : ByteArray := prog_13_method_56_code
def yX11_plays : MethodName := ⟨RX11, "plays", "(III)V"⟩
abbrev cX11_told : ByteArray := prog_13_method_57_code
def yX11_told : MethodName := ⟨RX11, "told", "(JJ)I"⟩
abbrev cX11_goes : ByteArray := prog_13_method_58_code
def yX11_goes : MethodName := ⟨RX11, "goes", "(II)I"⟩
abbrev cX11_few : ByteArray := prog_13_method_59_code
def yX11_few : MethodName := ⟨RX11, "few", "(II)I"⟩
abbrev cX11_home : ByteArray := prog_13_method_60_code
def yX11_home : MethodName := ⟨RX11, "home", "(II)I"⟩
abbrev cX11_mean : ByteArray := prog_13_method_61_code
def yX11_mean : MethodName := ⟨RX11, "mean", "(II)I"⟩
abbrev cX11_ahead : ByteArray := prog_13_method_62_code
def yX11_ahead : MethodName := ⟨RX11, "ahead", "(III)I"⟩
abbrev cX11_rather : ByteArray := prog_13_method_63_code
def yX11_rather : MethodName := ⟨RX11, "rather", "(III)I"⟩
abbrev cX11_without : ByteArray := prog_13_method_64_code
def yX11_without : MethodName := ⟨RX11, "without", "(III)I"⟩
abbrev cX11_span : ByteArray := prog_13_method_65_code
def yX11_span : MethodName := ⟨RX11, "span", "(III)I"⟩
abbrev cX11_keeps : ByteArray := prog_13_method_66_code
def yX11_keeps : MethodName := ⟨RX11, "keeps", "(IIIII)V"⟩
abbrev cX11_note : ByteArray := prog_13_method_67_code
def yX11_note : MethodName := ⟨RX11, "note", "(IIII)I"⟩
abbrev cX11_mark : ByteArray := prog_13_method_68_code
def yX11_mark : MethodName := ⟨RX11, "mark", "(IIII)I"⟩
abbrev cX11_forget : ByteArray := prog_13_method_69_code
def yX11_forget : MethodName := ⟨RX11, "forget", "(I)I"⟩
abbrev cX11_leads : ByteArray := prog_13_method_70_code
def yX11_leads : MethodName := ⟨RX11, "leads", "(IIII)I"⟩
abbrev cX11_isOf : ByteArray := prog_13_method_71_code
def yX11_isOf : MethodName := ⟨RX11, "isOf", "(I)I"⟩
abbrev cX11_is : ByteArray := prog_13_method_72_code
def yX11_is : MethodName := ⟨RX11, "is", "(I)I"⟩
abbrev cX11_look : ByteArray := prog_13_method_73_code
def yX11_look : MethodName := ⟨RX11, "look", "(I)I"⟩
abbrev cX11_whatOf : ByteArray := prog_13_method_74_code
def yX11_whatOf : MethodName := ⟨RX11, "whatOf", "(I)I"⟩
abbrev cX11_kinds : ByteArray := prog_13_method_75_code
def yX11_kinds : MethodName := ⟨RX11, "kinds", "(I)I"⟩
abbrev cX11_ask : ByteArray := prog_13_method_76_code
def yX11_ask : MethodName := ⟨RX11, "ask", "(I)I"⟩
abbrev cX11_gains : ByteArray := prog_13_method_77_code
def yX11_gains : MethodName := ⟨RX11, "gains", "(II)V"⟩
abbrev cX11_rests : ByteArray := prog_13_method_78_code
def yX11_rests : MethodName := ⟨RX11, "rests", "(II)Z"⟩
abbrev cX11_choice : ByteArray := prog_13_method_79_code
def yX11_choice : MethodName := ⟨RX11, "choice", "(III)I"⟩
abbrev cX11_evenings : ByteArray := prog_13_method_80_code
def yX11_evenings : MethodName := ⟨RX11, "evenings", "(II)I"⟩
abbrev cX11_part : ByteArray := prog_13_method_81_code
def yX11_part : MethodName := ⟨RX11, "part", "(I)J"⟩
abbrev cX11_image : ByteArray := prog_13_method_82_code
def yX11_image : MethodName := ⟨RX11, "image", "(I)I"⟩
abbrev cX11_from : ByteArray := prog_13_method_83_code
def yX11_from : MethodName := ⟨RX11, "from", "(I)I"⟩
abbrev cX11_status : ByteArray := prog_13_method_84_code
def yX11_status : MethodName := ⟨RX11, "status", "(I)I"⟩
abbrev cX11_sumOf : ByteArray := prog_13_method_85_code
def yX11_sumOf : MethodName := ⟨RX11, "sumOf", "(II)I"⟩
abbrev cX11_countOf : ByteArray := prog_13_method_86_code
def yX11_countOf : MethodName := ⟨RX11, "countOf", "(I)I"⟩
abbrev cX11_count : ByteArray := prog_13_method_87_code
def yX11_count : MethodName := ⟨RX11, "count", "(I)I"⟩
abbrev cX11_mix : ByteArray := prog_13_method_88_code
def yX11_mix : MethodName := ⟨RX11, "mix", "(J)V"⟩
abbrev cX11_mixes : ByteArray := prog_13_method_89_code
def yX11_mixes : MethodName := ⟨RX11, "mixes", "(II)V"⟩
abbrev cX11_digest : ByteArray := prog_13_method_90_code
def yX11_digest : MethodName := ⟨RX11, "digest", "()J"⟩
def RJ9 : String := "java/lang/Math"
def TJ9 : u_T := fun k => match k with
  | _ => ("", "", "", false)
def tyJ9 : Nat → FieldType := fun k => match k with
  | _ => .int
theorem nmJ9 : ∀ a, a < 0 → ∀ b, b < 0 → a ≠ b → (TJ9 a).2.1 ≠ (TJ9 b).2.1 := by decide +kernel
theorem tyJ9_ok : ∀ k, k < 0 → parseFieldDescriptor (TJ9 k).2.2.1 = some (tyJ9 k) := by decide +kernel
abbrev cJ9_max_7cf53 : ByteArray := prog_14_method_65_code
def yJ9_max_7cf53 : MethodName := ⟨RJ9, "max", "(II)I"⟩
abbrev cJ9_min_7cf53 : ByteArray := prog_14_method_69_code
def yJ9_min_7cf53 : MethodName := ⟨RJ9, "min", "(II)I"⟩
def RJ0 : String := "java/lang/String"
def TJ0 : u_T := fun k => match k with
  | _ => ("", "", "", false)
def tyJ0 : Nat → FieldType := fun k => match k with
  | _ => .int
theorem nmJ0 : ∀ a, a < 0 → ∀ b, b < 0 → a ≠ b → (TJ0 a).2.1 ≠ (TJ0 b).2.1 := by decide +kernel
theorem tyJ0_ok : ∀ k, k < 0 → parseFieldDescriptor (TJ0 k).2.2.1 = some (tyJ0 k) := by decide +kernel
abbrev cJ0_length_8abf5 : ByteArray := prog_15_method_54_code
def yJ0_length_8abf5 : MethodName := ⟨RJ0, "length", "()I"⟩
abbrev cJ0_charAt_5068e : ByteArray := prog_15_method_56_code
def yJ0_charAt_5068e : MethodName := ⟨RJ0, "charAt", "(I)C"⟩
abbrev cJ0_coder_7d493 : ByteArray := prog_15_method_152_code
def yJ0_coder_7d493 : MethodName := ⟨RJ0, "coder", "()B"⟩
abbrev cJ0_isLatin1_aae02 : ByteArray := prog_15_method_154_code
def yJ0_isLatin1_aae02 : MethodName := ⟨RJ0, "isLatin1", "()Z"⟩
abbrev cJ0_checkIndex_df160 : ByteArray := prog_15_method_155_code
def yJ0_checkIndex_df160 : MethodName := ⟨RJ0, "checkIndex", "(II)V"⟩
def RJ1 : String := "java/lang/StringLatin1"
def TJ1 : u_T := fun k => match k with
  | _ => ("", "", "", false)
def tyJ1 : Nat → FieldType := fun k => match k with
  | _ => .int
theorem nmJ1 : ∀ a, a < 0 → ∀ b, b < 0 → a ≠ b → (TJ1 a).2.1 ≠ (TJ1 b).2.1 := by decide +kernel
theorem tyJ1_ok : ∀ k, k < 0 → parseFieldDescriptor (TJ1 k).2.2.1 = some (tyJ1 k) := by decide +kernel
abbrev cJ1_charAt_3b067 : ByteArray := prog_16_method_2_code
def yJ1_charAt_3b067 : MethodName := ⟨RJ1, "charAt", "([BI)C"⟩
def RJ2 : String := "java/lang/StringUTF16"
def TJ2 : u_T := fun k => match k with
  | _ => ("", "", "", false)
def tyJ2 : Nat → FieldType := fun k => match k with
  | _ => .int
theorem nmJ2 : ∀ a, a < 0 → ∀ b, b < 0 → a ≠ b → (TJ2 a).2.1 ≠ (TJ2 b).2.1 := by decide +kernel
theorem tyJ2_ok : ∀ k, k < 0 → parseFieldDescriptor (TJ2 k).2.2.1 = some (tyJ2 k) := by decide +kernel
abbrev cJ2_getChar_3b067 : ByteArray := prog_17_method_5_code
def yJ2_getChar_3b067 : MethodName := ⟨RJ2, "getChar", "([BI)C"⟩
abbrev cJ2_length_9d52b : ByteArray := prog_17_method_6_code
def yJ2_length_9d52b : MethodName := ⟨RJ2, "length", "([B)I"⟩
abbrev cJ2_charAt_3b067 : ByteArray := prog_17_method_83_code
def yJ2_charAt_3b067 : MethodName := ⟨RJ2, "charAt", "([BI)C"⟩
abbrev cJ2_checkIndex_2214a : ByteArray := prog_17_method_91_code
def yJ2_checkIndex_2214a : MethodName := ⟨RJ2, "checkIndex", "(I[B)V"⟩
def RJ3 : String := "jdk/internal/util/Preconditions"
def TJ3 : u_T := fun k => match k with
  | _ => ("", "", "", false)
def tyJ3 : Nat → FieldType := fun k => match k with
  | _ => .int
theorem nmJ3 : ∀ a, a < 0 → ∀ b, b < 0 → a ≠ b → (TJ3 a).2.1 ≠ (TJ3 b).2.1 := by decide +kernel
theorem tyJ3_ok : ∀ k, k < 0 → parseFieldDescriptor (TJ3 k).2.2.1 = some (tyJ3 k) := by decide +kernel
abbrev cJ3_checkIndex_8e157 : ByteArray := prog_18_method_11_code
def yJ3_checkIndex_8e157 : MethodName := ⟨RJ3, "checkIndex", "(IILjava/util/function/BiFunction;)I"⟩
def RL : String := "SnakeLaddersLaw"
abbrev cL_law : ByteArray := code
def yL_law : MethodName := ⟨RL, "law", "([I)Z"⟩
abbrev vwCl : List vw_C := [(RX0, TX0, 11), (RX1, TX1, 4), (RX2, TX2, 1), (RX3, TX3, 2), (RX5, TX5, 8), (RX7, TX7, 5), (RX8, TX8, 5), (RX9, TX9, 8), (RX10, TX10, 11), (RX11, TX11, 14)]
end
section
/-! GX: cells by number. A cell is an array (the number of its type, its length, what it holds) or an object (the number of its class in vwCl, its fields). A reference is the number of a cell in the order in which the run makes them; .retAddr i stands for a thing from outside: 0 .. 4 the texts, 5 .. 9 their bytes, 10 the formatter, 11 the script. -/
def gx_tbl : List Cond := lw_tbl.filter goodWord
theorem gx_mem (i : Nat) {w : Cond} (h : lw_tbl[i]? = some w) (hg : goodWord w = true) : w ∈ gx_tbl := List.mem_filter.mpr ⟨List.mem_of_getElem? h, hg⟩
theorem gx_good {w : Cond} (h : w ∈ gx_tbl) : GoodIn gx_tbl (w :: gx_tbl) := by
  intro v hv
  have hv' : v ∈ gx_tbl := by
    rcases List.mem_cons.mp hv with rfl | hv
    · exact h
    · exact hv
  exact ⟨hv', good_of_word (List.mem_filter.mp hv').2⟩
abbrev gx_C : Type := (Nat × vp_A) ⊕ (Nat × List Value)
abbrev gx_H : Type := Nat × (Nat → gx_C)
/-- launch; base; addresses of the things outside, the formatter; array classes; classes; the script -/
abbrev gx_Env : Type := Launch × Nat × ((Nat → Nat) × Value) × (Nat → ClassId) × va_G × (Nat × (Nat → Int32))
abbrev gx_l (E : gx_Env) : Launch := E.1
abbrev gx_b (E : gx_Env) : Nat := E.2.1
abbrev gx_aK (E : gx_Env) : Nat → Nat := E.2.2.1.1
abbrev gx_cT (E : gx_Env) : Nat → ClassId := E.2.2.2.1
abbrev gx_D (E : gx_Env) : va_G := E.2.2.2.2.1
abbrev gx_sN (E : gx_Env) : Nat := E.2.2.2.2.2.1
abbrev gx_sX (E : gx_Env) : Nat → Int32 := E.2.2.2.2.2.2
def gx_A (E : gx_Env) : Nat → Prop := fun q => gx_b E ≤ q
def gx_junk : gx_C := .inr (1000, [])
def gx_k (E : gx_Env) (i : Nat) : Value := if i = 10 then E.2.2.1.2 else .ref (gx_aK E i)
def gx_v (E : gx_Env) : Value → Value
  | .ref k => .ref (gx_b E + k)
  | .retAddr i => gx_k E i
  | v => v
def gx_ar (b : Nat) : ((Nat → Int32) ⊕ (Nat → Int64) ⊕ (Nat → UInt32) ⊕ (Nat → UInt64) ⊕ (Nat → Option Nat)) → ((Nat → Int32) ⊕ (Nat → Int64) ⊕ (Nat → UInt32) ⊕ (Nat → UInt64) ⊕ (Nat → Option Nat))
  | .inr (.inr (.inr (.inr f))) => .inr (.inr (.inr (.inr (fun j => (f j).map (fun k => b + k)))))
  | a => a
def gx_e (E : gx_Env) : gx_C → va_E
  | .inl x => .inl (gx_cT E x.1, x.2.1, gx_ar (gx_b E) x.2.2)
  | .inr o => .inr (o.1, o.2.map (gx_v E))
def gx_tys (E : gx_Env) : List (ClassId × FieldType) := [(gx_cT E 0, .int), (gx_cT E 1, .byte), (gx_cT E 2, .boolean), (gx_cT E 3, .object RX8), (gx_cT E 4, .object RX1)]
def gx_P (E : gx_Env) (h : gx_H) (H : Heap) : Prop := H.size = gx_b E + h.1 ∧ (∀ k, k < h.1 → va_at (gx_D E) vwCl (gx_b E + k, gx_e E (h.2 k)) H) ∧ ∀ k, h.1 ≤ k → h.2 k = gx_junk
/-- the private members of nest mates -/
def gx_nest : List (String × Nat × MethodName) := [(RX10, 9, yX1_init), (RX1, 9, yX0_init), (RX1, 18, yX3_init), (RX3, 31, yX8_init), (RX1, 25, yX7_init), (RX10, 26, yX9_init), (RX9, 17, yX0_init), (RX9, 28, yX8_init), (RX10, 33, yX5_init), (RX5, 11, yX0_init), (RX10, 40, yX2_init), (RX9, 128, yX10_within), (RX5, 56, yX10_within), (RX5, 107, yX10_power), (RX5, 140, yX10_leftOver)]
def gx_txt : List (Nat × String) := [(55, "board"), (72, "link"), (77, "player"), (82, "set"), (87, "throw")]
def gx_len : List Nat := [5, 4, 6, 3, 5]
def gx_byt : List (List Int32) := [[98, 111, 97, 114, 100], [108, 105, 110, 107], [112, 108, 97, 121, 101, 114], [115, 101, 116], [116, 104, 114, 111, 119]]
/-- what comes from outside -/
def gx_out (E : gx_Env) (U : State) (H : Heap) : Prop :=
  vk_S 5 gx_len gx_byt (gx_aK E) (fun i => gx_aK E (5 + i)) (gx_A E) U H ∧ (∀ (i : Nat) (q : Nat × String), gx_txt[i]? = some q → vk_R RX9 q.1 q.2 (gx_aK E i) U) ∧
  va_Z "java/lang/String" "COMPACT_STRINGS" "Z" (.int 1) (gx_A E) U H ∧ va_Z "jdk/internal/util/Preconditions" "SIOOBE_FORMATTER" "Ljava/util/function/BiFunction;" E.2.2.1.2 (gx_A E) U H ∧ (E.2.2.1.2 = .null ∨ ∃ t, E.2.2.1.2 = .ref t) ∧
  va_X (gx_aK E 11) (gx_sN E) (gx_sX E) U H ∧ gx_aK E 11 < gx_b E
def gx_ok (E : gx_Env) (U : State) (H : Heap) : Prop := va_K (gx_D E) vwCl (gx_tys E) U ∧ (∀ q ∈ gx_nest, va_Nw (.methodLinkNest q.1 q.2.1 q.2.2 RX10) U) ∧ va_AO RX8 U ∧ va_AO RX1 U ∧ gx_out E U H
theorem gx_ok.warm {E : gx_Env} {s U : State} {H : Heap} (hW : s.WarmedH U.vm) (h : gx_ok E s H) : gx_ok E U H := by
  obtain ⟨h1, h2, h3, h4, h5, h6, h7, h8, h9, h10, h11⟩ := h
  exact ⟨h1.moved hW.alike, fun q hq => (h2 q hq).warmM hW, h3.moved hW.alike, h4.moved hW.alike, h5.moved hW.alike, fun i q hq => (h6 i q hq).warm hW, h7.moved hW.alike, h8.moved hW.alike, h9, h10.moved hW.alike, h11⟩
theorem gx_ok.same {E : gx_Env} {s U : State} {H : Heap} (hv : U.vm = s.vm) (h : gx_ok E s H) : gx_ok E U H := by
  have ha : s.vm.Alike U.vm := by rw [hv]; exact Vm.Alike.refl _
  obtain ⟨h1, h2, h3, h4, h5, h6, h7, h8, h9, h10, h11⟩ := h
  exact ⟨h1.moved ha, fun q hq => (h2 q hq).same rfl hv.symm, h3.moved ha, h4.moved ha, h5.moved ha, fun i q hq => (h6 i q hq).same hv, h7.moved ha, h8.moved ha, h9, h10.moved ha, h11⟩
theorem gx_ok.kept {E : gx_Env} {U : State} {H H1 : Heap} (hs : gx_b E ≤ H.size) (hq : ∀ a : Nat, a < H.size → ¬ gx_A E a → H1[a]? = H[a]?) (h : gx_ok E U H) : gx_ok E U H1 := by
  obtain ⟨h1, h2, h3, h4, h5, h6, h7, h8, h9, h10, h11⟩ := h
  exact ⟨h1, h2, h3, h4, h5.kept hq, h6, h7.kept hq, h8.kept hq, h9, h10.kept (hq _ (by omega) (by show ¬ gx_b E ≤ _; omega)), h11⟩
theorem gx_P.lt {E : gx_Env} {h : gx_H} {H : Heap} (hP : gx_P E h H) {k : Nat} (hk : h.2 k ≠ gx_junk) : k < h.1 := Nat.not_le.mp fun q => hk (hP.2.2 k q)
theorem gx_P.set {E : gx_Env} {h : gx_H} {H H1 : Heap} (hP : gx_P E h H) {k : Nat} {c : gx_C} (hk : k < h.1) (hz : H1.size = H.size) (ho : ∀ q, q ≠ gx_b E + k → H1[q]? = H[q]?) (ha : va_at (gx_D E) vwCl (gx_b E + k, gx_e E c) H1) : gx_P E (h.1, va_up h.2 k c) H1 := by
  refine ⟨hz.trans hP.1, fun j hj => ?_, fun j hj => ?_⟩
  · by_cases e : j = k
    · subst e
      rw [show ((h.1, va_up h.2 j c) : gx_H).2 j = c from va_up_self _ _ _]
      exact ha
    · rw [show ((h.1, va_up h.2 k c) : gx_H).2 j = h.2 j from va_up_ne _ _ e]
      exact (hP.2.1 j hj).kept (ho _ (by show gx_b E + j ≠ gx_b E + k; omega))
  · have hj' : h.1 ≤ j := hj
    rw [show ((h.1, va_up h.2 k c) : gx_H).2 j = h.2 j from va_up_ne _ _ (by omega)]
    exact hP.2.2 j hj
theorem gx_P.push {E : gx_Env} {h : gx_H} {H H1 : Heap} (hP : gx_P E h H) {c : gx_C} (hz : H1.size = H.size + 1) (ho : ∀ q, q < H.size → H1[q]? = H[q]?) (ha : va_at (gx_D E) vwCl (H.size, gx_e E c) H1) : gx_P E (h.1 + 1, va_up h.2 h.1 c) H1 := by
  have h1 := hP.1
  refine ⟨by rw [hz, h1]; rfl, fun j hj => ?_, fun j hj => ?_⟩
  · by_cases e : j = h.1
    · subst e
      rw [show ((h.1 + 1, va_up h.2 h.1 c) : gx_H).2 h.1 = c from va_up_self _ _ _, ← h1]
      exact ha
    · have hj' : j < h.1 + 1 := hj
      rw [show ((h.1 + 1, va_up h.2 h.1 c) : gx_H).2 j = h.2 j from va_up_ne _ _ e]
      exact (hP.2.1 j (by omega)).kept (ho _ (by show gx_b E + j < H.size; omega))
  · have hj' : h.1 + 1 ≤ j := hj
    rw [show ((h.1 + 1, va_up h.2 h.1 c) : gx_H).2 j = h.2 j from va_up_ne _ _ (by omega)]
    exact hP.2.2 j (by omega)
theorem gx_P.one {E : gx_Env} {h : gx_H} {H : Heap} (hP : gx_P E h H) {k : Nat} {c : gx_C} (hk : k < h.1) (hc : h.2 k = c) : va_P (gx_D E) vwCl [(gx_b E + k, gx_e E c)] H := by
  intro i q hq
  subst hc
  have hz : i < 1 := (List.getElem?_eq_some_iff.mp hq).1
  rw [show i = 0 by omega] at hq
  cases hq
  exact hP.2.1 k hk
/-! locals by their places -/
def gx_as : Nat → List (Option Value) → List (Nat × Value)
  | _, [] => []
  | i, none :: l => gx_as (i + 1) l
  | i, some v :: l => (i, v) :: gx_as (i + 1) l
theorem gx_as_iff : ∀ (l : List (Option Value)) (i j : Nat) (v : Value), (j, v) ∈ gx_as i l ↔ i ≤ j ∧ l[j - i]? = some (some v)
  | [], i, j, v => by simp [gx_as]
  | none :: l, i, j, v => by
    rw [gx_as, gx_as_iff l (i + 1) j v]
    constructor
    · rintro ⟨h1, h2⟩
      exact ⟨by omega, by rw [show j - i = (j - (i + 1)) + 1 by omega]; exact h2⟩
    · rintro ⟨h1, h2⟩
      by_cases e : j = i
      · subst e
        rw [Nat.sub_self] at h2
        cases h2
      · refine ⟨by omega, ?_⟩
        rw [show j - i = (j - (i + 1)) + 1 by omega] at h2
        exact h2
  | some w :: l, i, j, v => by
    rw [gx_as, List.mem_cons, gx_as_iff l (i + 1) j v]
    constructor
    · rintro (h | ⟨h1, h2⟩)
      · cases h
        exact ⟨Nat.le_refl _, by rw [Nat.sub_self]; rfl⟩
      · exact ⟨by omega, by rw [show j - i = (j - (i + 1)) + 1 by omega]; exact h2⟩
    · rintro ⟨h1, h2⟩
      by_cases e : j = i
      · subst e
        rw [Nat.sub_self] at h2
        cases h2
        exact Or.inl rfl
      · refine Or.inr ⟨by omega, ?_⟩
        rw [show j - i = (j - (i + 1)) + 1 by omega] at h2
        exact h2
def gx_L (E : gx_Env) (ls : Array Slot) (nL : Nat) (L : List (Option Value)) : Prop := L.length = nL ∧ lv_has ls nL ((gx_as 0 L).map (fun q => (q.1, gx_v E q.2)))
theorem gx_L.at {E : gx_Env} {ls : Array Slot} {nL : Nat} {L : List (Option Value)} (h : gx_L E ls nL L) {i : Nat} {v : Value} (hv : L[i]? = some (some v)) : ls[i]? = some (.val (gx_v E v)) :=
  h.2.2.2 (i, gx_v E v) (List.mem_map.mpr ⟨(i, v), (gx_as_iff L 0 i v).mpr ⟨Nat.zero_le _, hv⟩, rfl⟩)
def gx_kill (L : List (Option Value)) (i : Nat) : List (Option Value) := match i with
  | 0 => L
  | j + 1 => match L[j]? with
    | some (some (.long _)) => L.set j none
    | some (some (.double _)) => L.set j none
    | _ => L
def gx_set1 (L : List (Option Value)) (i : Nat) (v : Value) : List (Option Value) := (gx_kill L i).set i (some v)
def gx_set2 (L : List (Option Value)) (i : Nat) (v : Value) : List (Option Value) := ((gx_kill L i).set i (some v)).set (i + 1) none
theorem gx_kill_len (L : List (Option Value)) (i : Nat) : (gx_kill L i).length = L.length := by
  unfold gx_kill
  split
  · rfl
  · split <;> simp
/-- what is left where a place before is killed -/
theorem gx_kill_at {L : List (Option Value)} {i j : Nat} {v : Value} (h : (gx_kill L i)[j]? = some (some v)) : L[j]? = some (some v) ∧ ¬ (j + 1 = i ∧ ((∃ x, v = .long x) ∨ ∃ x, v = .double x)) := by
  unfold gx_kill at h
  split at h
  · exact ⟨h, fun q => by omega⟩
  · rename_i i
    split at h
    · rename_i x hx
      by_cases e : i = j
      · subst e
        rw [List.getElem?_set_self (List.getElem?_eq_some_iff.mp hx).1] at h
        cases h
      · rw [List.getElem?_set_ne e] at h
        exact ⟨h, fun q => e (by omega)⟩
    · rename_i x hx
      by_cases e : i = j
      · subst e
        rw [List.getElem?_set_self (List.getElem?_eq_some_iff.mp hx).1] at h
        cases h
      · rw [List.getElem?_set_ne e] at h
        exact ⟨h, fun q => e (by omega)⟩
    · rename_i hn1 hn2
      refine ⟨h, fun q => ?_⟩
      obtain ⟨q1, ⟨x, rfl⟩ | ⟨x, rfl⟩⟩ := q
      · have : j = i := by omega
        subst this
        exact hn1 x h
      · have : j = i := by omega
        subst this
        exact hn2 x h
/-- the formatter is a reference or null -/
def gx_fm (E : gx_Env) : Prop := E.2.2.1.2 = .null ∨ ∃ t, E.2.2.1.2 = .ref t
theorem gx_catv {E : gx_Env} (hE : gx_fm E) {v : Value} (h : (gx_v E v).category = 2) : (∃ x, v = .long x) ∨ ∃ x, v = .double x := by
  cases v with
  | long x => exact Or.inl ⟨x, rfl⟩
  | double x => exact Or.inr ⟨x, rfl⟩
  | retAddr i =>
    exfalso
    have h : (gx_k E i).category = 2 := h
    unfold gx_k at h
    split at h
    · rcases hE with e | ⟨t, e⟩ <;> rw [e] at h <;> simp [Value.category] at h
    · simp [Value.category] at h
  | int x => simp [gx_v, Value.category] at h
  | float x => simp [gx_v, Value.category] at h
  | null => simp [gx_v, Value.category] at h
  | ref x => simp [gx_v, Value.category] at h
theorem gx_L.set1 {E : gx_Env} (hE : gx_fm E) {ls ls' : Array Slot} {nL i : Nat} {L : List (Option Value)} {v : Value} (h : gx_L E ls nL L)
    (h' : lv_has ls' nL ((i, gx_v E v) :: ((gx_as 0 L).map (fun q => (q.1, gx_v E q.2))).filter (fun q => !(q.1 == i) && !(q.1 + 1 == i && q.2.category == 2)))) : gx_L E ls' nL (gx_set1 L i v) := by
  refine ⟨by rw [gx_set1, List.length_set, gx_kill_len]; exact h.1, h'.1, h'.2.1, fun q hq => ?_⟩
  obtain ⟨⟨j, w⟩, hj, rfl⟩ := List.mem_map.mp hq
  have hj := ((gx_as_iff _ 0 j w).mp hj).2
  rw [Nat.sub_zero] at hj
  refine h'.2.2 _ ?_
  rw [gx_set1] at hj
  by_cases e : i = j
  · subst e
    have hlt : i < (gx_kill L i).length := by
      have := (List.getElem?_eq_some_iff.mp hj).1
      rwa [List.length_set] at this
    rw [List.getElem?_set_self hlt] at hj
    cases hj
    exact List.mem_cons_self
  · rw [List.getElem?_set_ne e] at hj
    obtain ⟨h1, h2⟩ := gx_kill_at hj
    refine List.mem_cons_of_mem _ (List.mem_filter.mpr ⟨List.mem_map.mpr ⟨(j, w), (gx_as_iff L 0 j w).mpr ⟨Nat.zero_le _, h1⟩, rfl⟩, ?_⟩)
    simp only [Bool.and_eq_true, Bool.not_eq_true', beq_eq_false_iff_ne, ne_eq, Bool.and_eq_false_iff]
    refine ⟨fun q => e q.symm, ?_⟩
    by_cases e2 : j + 1 = i
    · exact Or.inr (fun q => h2 ⟨e2, gx_catv hE q⟩)
    · exact Or.inl e2
theorem gx_L.set2 {E : gx_Env} (hE : gx_fm E) {ls ls' : Array Slot} {nL i : Nat} {L : List (Option Value)} {v : Value} (h : gx_L E ls nL L)
    (h' : lv_has ls' nL ((i, gx_v E v) :: ((gx_as 0 L).map (fun q => (q.1, gx_v E q.2))).filter (fun q => !(q.1 == i) && (!(q.1 == i + 1) && !(q.1 + 1 == i && q.2.category == 2))))) : gx_L E ls' nL (gx_set2 L i v) := by
  refine ⟨by rw [gx_set2, List.length_set, List.length_set, gx_kill_len]; exact h.1, h'.1, h'.2.1, fun q hq => ?_⟩
  obtain ⟨⟨j, w⟩, hj, rfl⟩ := List.mem_map.mp hq
  have hj := ((gx_as_iff _ 0 j w).mp hj).2
  rw [Nat.sub_zero] at hj
  refine h'.2.2 _ ?_
  rw [gx_set2] at hj
  by_cases e0 : i + 1 = j
  · subst e0
    have hlt : i + 1 < ((gx_kill L i).set i (some v)).length := by
      have := (List.getElem?_eq_some_iff.mp hj).1
      rwa [List.length_set] at this
    rw [List.getElem?_set_self hlt] at hj
    cases hj
  rw [List.getElem?_set_ne e0] at hj
  by_cases e : i = j
  · subst e
    have hlt : i < (gx_kill L i).length := by
      have := (List.getElem?_eq_some_iff.mp hj).1
      rwa [List.length_set] at this
    rw [List.getElem?_set_self hlt] at hj
    cases hj
    exact List.mem_cons_self
  · rw [List.getElem?_set_ne e] at hj
    obtain ⟨h1, h2⟩ := gx_kill_at hj
    refine List.mem_cons_of_mem _ (List.mem_filter.mpr ⟨List.mem_map.mpr ⟨(j, w), (gx_as_iff L 0 j w).mpr ⟨Nat.zero_le _, h1⟩, rfl⟩, ?_⟩)
    simp only [Bool.and_eq_true, Bool.not_eq_true', beq_eq_false_iff_ne, ne_eq, Bool.and_eq_false_iff]
    refine ⟨fun q => e q.symm, fun q => e0 q.symm, ?_⟩
    by_cases e2 : j + 1 = i
    · exact Or.inr (fun q => h2 ⟨e2, gx_catv hE q⟩)
    · exact Or.inl e2
/-! the locals with which a method begins -/
def gx_sl : List Value → List (Option Value)
  | [] => []
  | .long x :: l => some (.long x) :: none :: gx_sl l
  | .double x :: l => some (.double x) :: none :: gx_sl l
  | v :: l => some v :: gx_sl l
def gx_L0 (nL : Nat) (As : List Value) : List (Option Value) := gx_sl As ++ List.replicate (nL - (gx_sl As).length) none
theorem gx_as_rep (n : Nat) : ∀ i, gx_as i (List.replicate n none) = [] := by
  induction n with
  | zero => intro i; rfl
  | succ n ih => intro i; exact ih (i + 1)
theorem gx_as_app : ∀ (a b : List (Option Value)) (i : Nat), gx_as i (a ++ b) = gx_as i a ++ gx_as (i + a.length) b
  | [], b, i => by simp [gx_as]
  | none :: a, b, i => by
    show gx_as (i + 1) (a ++ b) = gx_as (i + 1) a ++ _
    rw [gx_as_app a b (i + 1), List.length_cons, show i + (a.length + 1) = i + 1 + a.length by omega]
  | some v :: a, b, i => by
    show (i, v) :: gx_as (i + 1) (a ++ b) = ((i, v) :: gx_as (i + 1) a) ++ _
    rw [gx_as_app a b (i + 1), List.length_cons, show i + (a.length + 1) = i + 1 + a.length by omega]
    rfl
theorem gx_cat1 {E : gx_Env} (hE : gx_fm E) {v : Value} (h1 : ∀ x, v ≠ .long x) (h2 : ∀ x, v ≠ .double x) : (gx_v E v).category ≠ 2 := fun q => (gx_catv hE q).elim (fun ⟨x, e⟩ => h1 x e) (fun ⟨x, e⟩ => h2 x e)
theorem gx_sl_as {E : gx_Env} (hE : gx_fm E) : ∀ (As : List Value) (i : Nat), (gx_as i (gx_sl As)).map (fun q => (q.1, gx_v E q.2)) = lv_args i (As.map (gx_v E))
  | [], i => rfl
  | v :: l, i => by
    cases v with
    | long x =>
      show (i, Value.long x) :: (gx_as (i + 1 + 1) (gx_sl l)).map _ = (i, Value.long x) :: lv_args (i + 2) _
      rw [gx_sl_as hE l (i + 1 + 1)]
    | double x =>
      show (i, Value.double x) :: (gx_as (i + 1 + 1) (gx_sl l)).map _ = (i, Value.double x) :: lv_args (i + 2) _
      rw [gx_sl_as hE l (i + 1 + 1)]
    | retAddr k =>
      show (i, gx_k E k) :: (gx_as (i + 1) (gx_sl l)).map _ = (i, gx_k E k) :: lv_args (if (gx_k E k).category = 2 then i + 2 else i + 1) _
      rw [if_neg (show ¬ (gx_k E k).category = 2 from gx_cat1 (v := .retAddr k) hE (fun x q => by cases q) (fun x q => by cases q)), gx_sl_as hE l (i + 1)]
    | int x =>
      show (i, Value.int x) :: (gx_as (i + 1) (gx_sl l)).map _ = (i, Value.int x) :: lv_args (i + 1) _
      rw [gx_sl_as hE l (i + 1)]
    | float x =>
      show (i, Value.float x) :: (gx_as (i + 1) (gx_sl l)).map _ = (i, Value.float x) :: lv_args (i + 1) _
      rw [gx_sl_as hE l (i + 1)]
    | null =>
      show (i, Value.null) :: (gx_as (i + 1) (gx_sl l)).map _ = (i, Value.null) :: lv_args (i + 1) _
      rw [gx_sl_as hE l (i + 1)]
    | ref x =>
      show (i, Value.ref (gx_b E + x)) :: (gx_as (i + 1) (gx_sl l)).map _ = (i, Value.ref (gx_b E + x)) :: lv_args (i + 1) _
      rw [gx_sl_as hE l (i + 1)]
theorem gx_sl_len {E : gx_Env} (hE : gx_fm E) : ∀ (As : List Value), (gx_sl As).length = (lg_sl (As.map (gx_v E))).length
  | [] => rfl
  | v :: l => by
    have ih := gx_sl_len hE l
    have e : ∀ w : Value, lg_sl ((v :: l).map (gx_v E)) = lg_sl [gx_v E v] ++ lg_sl (l.map (gx_v E)) := fun w => by simp [lg_sl]
    rw [e v, List.length_append, ← ih]
    cases v with
    | long x => simp [gx_sl, lg_sl, gx_v, Value.category]; omega
    | double x => simp [gx_sl, lg_sl, gx_v, Value.category]; omega
    | retAddr k =>
      have hk : ¬ (gx_v E (.retAddr k)).category = 2 := gx_cat1 hE (fun x q => by cases q) (fun x q => by cases q)
      simp [gx_sl, lg_sl, hk]; omega
    | int x => simp [gx_sl, lg_sl, gx_v, Value.category]; omega
    | float x => simp [gx_sl, lg_sl, gx_v, Value.category]; omega
    | null => simp [gx_sl, lg_sl, gx_v, Value.category]; omega
    | ref x => simp [gx_sl, lg_sl, gx_v, Value.category]; omega
theorem gx_entry {E : gx_Env} (hE : gx_fm E) (As : List Value) {nL : Nat} (h : (gx_sl As).length ≤ nL) : gx_L E ((lg_sl (As.map (gx_v E)) ++ List.replicate (nL - (lg_sl (As.map (gx_v E))).length) Slot.unset).toArray) nL (gx_L0 nL As) := by
  refine ⟨by simp [gx_L0]; omega, ?_⟩
  rw [gx_L0, gx_as_app, gx_as_rep, List.append_nil, gx_sl_as hE]
  exact lv_entry _ (by rw [← gx_sl_len hE]; exact h)
end
section
/-! what a frame stands on, what a method's end gives, and the judgement gx_G: from here, with these locals, this stack, these cells, the machine does what o says -/
def gx_F (E : gx_Env) (own : String) (cc : ByteArray) (nL : Nat) (d : Nat) (ini : Bool) (p : Program) (R : Room) (s : State) (m : MethodId) (args : Array Value) (meth : Method) (c : Code) : Prop :=
  p.tables.exec = Jvm.exec ∧ c.code = cc ∧ c.maxLocals = nL ∧ s.vm.findClass own = some m.cls ∧ (∀ w ∈ gx_tbl, w.before args s = true) ∧ gx_ok E s s.heap ∧ (d ≤ R.frames ∧ 64 * d ≤ R.locals) ∧ (ini = true → meth.name = "<init>") ∧ gx_b E ≤ s.heap.size
def gx_isret (cc : ByteArray) (rt : Option FieldType) (pc : Nat) : Option Value → Prop
  | some (.int x) => decode cc pc = .ok (.ireturn, 1) ∧ ∃ ty, rt = some ty ∧ narrow ty (.int x) = .int x
  | some (.long _) => decode cc pc = .ok (.lreturn, 1) ∧ rt = some .long
  | some (.ref _) => decode cc pc = .ok (.areturn, 1) ∧ ∃ ty, rt = some ty ∧ ((∃ n, ty = .object n) ∨ ∃ t, ty = .array t)
  | none => decode cc pc = .ok (.return_, 1) ∧ rt = none
  | _ => False
def gx_R (E : gx_Env) (cc : ByteArray) (rt : Option FieldType) (p : Program) (e : Env) (R : Room) (s : State) (m : MethodId) (args : Array Value) (below : List Frame) (meth : Method) (c : Code) (Q : State → Prop) (v : Option Value) (h' : gx_H) : Prop :=
  ∀ (H : Heap) (locs : List Loc) (cells slots pc : Nat) (ls : Array Slot), gx_P E h' H → va_S (gx_A E) s.heap H locs → cells ≤ R.cells → slots ≤ R.slots → gx_isret cc rt pc v → W p (gx_l E) e R s m args below meth c H locs cells slots Q (F0 m pc ls (v.toList.map (gx_v E)))
def gx_G (E : gx_Env) (own : String) (cc : ByteArray) (nL : Nat) (rt : Option FieldType) (ini : Bool) (d bc bs pc : Nat) (L : List (Option Value)) (st : List Value) (h : gx_H) {ρ : Type} (em : ρ → Option Value) (o : Option (ρ × gx_H)) : Prop :=
  ∀ (r : ρ) (h' : gx_H), o = some (r, h') → ∀ (p : Program) (e : Env) (R : Room) (s : State) (m : MethodId) (args : Array Value) (below : List Frame) (meth : Method) (c : Code) (Q : State → Prop),
    gx_F E own cc nL d ini p R s m args meth c → gx_R E cc rt p e R s m args below meth c Q (em r) h' →
    ∀ (H : Heap) (locs : List Loc) (cells slots : Nat) (ls : Array Slot), gx_P E h H → va_S (gx_A E) s.heap H locs → cells + bc ≤ R.cells → slots + bs ≤ R.slots → gx_L E ls nL L →
      W p (gx_l E) e R s m args below meth c H locs cells slots Q (F0 m pc ls (st.map (gx_v E)))
theorem gx_F.fm {E : gx_Env} {own : String} {cc : ByteArray} {nL : Nat} {d : Nat} {ini : Bool} {p : Program} {R : Room} {s : State} {m : MethodId} {args : Array Value} {meth : Method} {c : Code} (F : gx_F E own cc nL d ini p R s m args meth c) : gx_fm E := F.2.2.2.2.2.1.2.2.2.2.2.2.2.2.1
section GXR
variable {E : gx_Env} {own : String} {cc : ByteArray} {nL : Nat} {rt : Option FieldType} {ini : Bool} {d bc bs pc : Nat} {L : List (Option Value)} {st : List Value} {h : gx_H} {ρ : Type} {em : ρ → Option Value} {o : Option (ρ × gx_H)}
/-- a step that touches neither locals nor cells -/
theorem gx_pure {pc' : Nat} {st' : List Value} (hs : ∀ {p : Program} {e : Env} {R : Room} {s : State} {m : MethodId} {args : Array Value} {below : List Frame} {meth : Method} {c : Code} {Q : State → Prop} {H : Heap} {locs : List Loc} {cells slots : Nat} {ls : Array Slot}, gx_F E own cc nL d ini p R s m args meth c → gx_L E ls nL L →
      W p (gx_l E) e R s m args below meth c H locs cells slots Q (F0 m pc' ls (st'.map (gx_v E))) → W p (gx_l E) e R s m args below meth c H locs cells slots Q (F0 m pc ls (st.map (gx_v E))))
    (k : gx_G E own cc nL rt ini d bc bs pc' L st' h em o) : gx_G E own cc nL rt ini d bc bs pc L st h em o := by
  intro r h' ho p e R s m args below meth c Q F hR H locs cells slots ls hP hS hc hs' hL
  exact hs F hL (k r h' ho p e R s m args below meth c Q F hR H locs cells slots ls hP hS hc hs' hL)
theorem gx_iconst {n : Int} (v : Int32) (hd : decode cc pc = .ok (.iconst n, 1)) (hv : Int32.ofInt n = v) (k : gx_G E own cc nL rt ini d bc bs (pc + 1) L (.int v :: st) h em o) : gx_G E own cc nL rt ini d bc bs pc L st h em o := gx_pure (fun F _ k => lv_iconst F.1 F.2.1 hd hv k) k
theorem gx_bipush {n : Int} (v : Int32) (hd : decode cc pc = .ok (.bipush n, 2)) (hv : (Int8.ofInt n).toInt32 = v) (k : gx_G E own cc nL rt ini d bc bs (pc + 2) L (.int v :: st) h em o) : gx_G E own cc nL rt ini d bc bs pc L st h em o := gx_pure (fun F _ k => lv_bipush F.1 F.2.1 hd hv k) k
theorem gx_sipush {n : Int} (v : Int32) (hd : decode cc pc = .ok (.sipush n, 3)) (hv : (Int16.ofInt n).toInt32 = v) (k : gx_G E own cc nL rt ini d bc bs (pc + 3) L (.int v :: st) h em o) : gx_G E own cc nL rt ini d bc bs pc L st h em o := gx_pure (fun F _ k => lv_sipush F.1 F.2.1 hd hv k) k
theorem gx_lconst {n : Fin 2} (v : Int64) (hd : decode cc pc = .ok (.lconst n, 1)) (hv : Int64.ofNat (n : Nat) = v) (k : gx_G E own cc nL rt ini d bc bs (pc + 1) L (.long v :: st) h em o) : gx_G E own cc nL rt ini d bc bs pc L st h em o := gx_pure (fun F _ k => lv_lconst F.1 F.2.1 hd hv k) k
theorem gx_ldc {index : Nat} {v : Int32} (hw : Cond.constant own index v ∈ gx_tbl) (hd : decode cc pc = .ok (.ldc index, 2)) (k : gx_G E own cc nL rt ini d bc bs (pc + 2) L (.int v :: st) h em o) : gx_G E own cc nL rt ini d bc bs pc L st h em o := gx_pure (fun F _ k => lv_ldc F.1 F.2.1 F.2.2.2.1 (F.2.2.2.2.1 _ hw) hd k) k
theorem gx_ldcw {index : Nat} {v : Int32} (hw : Cond.constant own index v ∈ gx_tbl) (hd : decode cc pc = .ok (.ldc_w index, 3)) (k : gx_G E own cc nL rt ini d bc bs (pc + 3) L (.int v :: st) h em o) : gx_G E own cc nL rt ini d bc bs pc L st h em o := gx_pure (fun F _ k => lv_ldcw F.1 F.2.1 F.2.2.2.1 (F.2.2.2.2.1 _ hw) hd k) k
theorem gx_ldc2 {index : Nat} {v : Int64} (hw : Cond.constantLong own index v ∈ gx_tbl) (hd : decode cc pc = .ok (.ldc2_w index, 3)) (k : gx_G E own cc nL rt ini d bc bs (pc + 3) L (.long v :: st) h em o) : gx_G E own cc nL rt ini d bc bs pc L st h em o := gx_pure (fun F _ k => lv_ldc2 F.1 F.2.1 F.2.2.2.1 (F.2.2.2.2.1 _ hw) hd k) k
theorem gx_iload_n {n : Fin 4} (i : Nat) {x : Int32} (hd : decode cc pc = .ok (.iload_n n, 1)) (hi : (n : Nat) = i) (hl : L[i]? = some (some (.int x))) (k : gx_G E own cc nL rt ini d bc bs (pc + 1) L (.int x :: st) h em o) : gx_G E own cc nL rt ini d bc bs pc L st h em o := gx_pure (fun F hL k => lv_iload_n F.1 F.2.1 hd hi (hL.at hl) k) k
theorem gx_iload {i : Nat} {x : Int32} (hd : decode cc pc = .ok (.iload i, 2)) (hl : L[i]? = some (some (.int x))) (k : gx_G E own cc nL rt ini d bc bs (pc + 2) L (.int x :: st) h em o) : gx_G E own cc nL rt ini d bc bs pc L st h em o := gx_pure (fun F hL k => lv_iload F.1 F.2.1 hd (hL.at hl) k) k
theorem gx_lload_n {n : Fin 4} (i : Nat) {x : Int64} (hd : decode cc pc = .ok (.lload_n n, 1)) (hi : (n : Nat) = i) (hl : L[i]? = some (some (.long x))) (k : gx_G E own cc nL rt ini d bc bs (pc + 1) L (.long x :: st) h em o) : gx_G E own cc nL rt ini d bc bs pc L st h em o := gx_pure (fun F hL k => lv_lload_n F.1 F.2.1 hd hi (hL.at hl) k) k
theorem gx_lload {i : Nat} {x : Int64} (hd : decode cc pc = .ok (.lload i, 2)) (hl : L[i]? = some (some (.long x))) (k : gx_G E own cc nL rt ini d bc bs (pc + 2) L (.long x :: st) h em o) : gx_G E own cc nL rt ini d bc bs pc L st h em o := gx_pure (fun F hL k => lv_lload F.1 F.2.1 hd (hL.at hl) k) k
theorem gx_aload_n {n : Fin 4} (i : Nat) {x : Nat} (hd : decode cc pc = .ok (.aload_n n, 1)) (hi : (n : Nat) = i) (hl : L[i]? = some (some (.ref x))) (k : gx_G E own cc nL rt ini d bc bs (pc + 1) L (.ref x :: st) h em o) : gx_G E own cc nL rt ini d bc bs pc L st h em o := gx_pure (fun F hL k => lv_aload_n F.1 F.2.1 hd hi (hL.at hl) k) k
theorem gx_aload {i : Nat} {x : Nat} (hd : decode cc pc = .ok (.aload i, 2)) (hl : L[i]? = some (some (.ref x))) (k : gx_G E own cc nL rt ini d bc bs (pc + 2) L (.ref x :: st) h em o) : gx_G E own cc nL rt ini d bc bs pc L st h em o := gx_pure (fun F hL k => lv_aload F.1 F.2.1 hd (hL.at hl) k) k
/-- a thing from outside (but the formatter) -/
theorem gx_kref {i : Nat} (hi : i ≠ 10) : gx_v E (.retAddr i) = .ref (gx_aK E i) := if_neg hi
theorem gx_kload_n {n : Fin 4} (i : Nat) {x : Nat} (hd : decode cc pc = .ok (.aload_n n, 1)) (hi : (n : Nat) = i) (hl : L[i]? = some (some (.retAddr x))) (k : gx_G E own cc nL rt ini d bc bs (pc + 1) L (.retAddr x :: st) h em o) : gx_G E own cc nL rt ini d bc bs pc L st h em o := by
  refine gx_pure (fun F hL k => ?_) k
  have h1 := hL.at hl
  rw [List.map_cons] at k
  have hc : gx_v E (.retAddr x) = .null ∨ ∃ t, gx_v E (.retAddr x) = .ref t := by
    show gx_k E x = .null ∨ ∃ t, gx_k E x = .ref t
    unfold gx_k
    split
    · exact F.fm
    · exact Or.inr ⟨_, rfl⟩
  rcases hc with hc | ⟨t, hc⟩
  · rw [hc] at h1 k
    exact lv_aload_nN F.1 F.2.1 hd hi h1 k
  · rw [hc] at h1 k
    exact lv_aload_n F.1 F.2.1 hd hi h1 k
theorem gx_iadd {x y : Int32} (hd : decode cc pc = .ok (.iadd, 1)) (k : gx_G E own cc nL rt ini d bc bs (pc + 1) L (.int (x + y) :: st) h em o) : gx_G E own cc nL rt ini d bc bs pc L (.int y :: .int x :: st) h em o := gx_pure (fun F _ k => lv_iadd F.1 F.2.1 hd k) k
theorem gx_isub {x y : Int32} (hd : decode cc pc = .ok (.isub, 1)) (k : gx_G E own cc nL rt ini d bc bs (pc + 1) L (.int (x - y) :: st) h em o) : gx_G E own cc nL rt ini d bc bs pc L (.int y :: .int x :: st) h em o := gx_pure (fun F _ k => lv_isub F.1 F.2.1 hd k) k
theorem gx_imul {x y : Int32} (hd : decode cc pc = .ok (.imul, 1)) (k : gx_G E own cc nL rt ini d bc bs (pc + 1) L (.int (x * y) :: st) h em o) : gx_G E own cc nL rt ini d bc bs pc L (.int y :: .int x :: st) h em o := gx_pure (fun F _ k => lv_imul F.1 F.2.1 hd k) k
theorem gx_iand {x y : Int32} (hd : decode cc pc = .ok (.iand, 1)) (k : gx_G E own cc nL rt ini d bc bs (pc + 1) L (.int (x &&& y) :: st) h em o) : gx_G E own cc nL rt ini d bc bs pc L (.int y :: .int x :: st) h em o := gx_pure (fun F _ k => lv_iand F.1 F.2.1 hd k) k
theorem gx_ior {x y : Int32} (hd : decode cc pc = .ok (.ior, 1)) (k : gx_G E own cc nL rt ini d bc bs (pc + 1) L (.int (x ||| y) :: st) h em o) : gx_G E own cc nL rt ini d bc bs pc L (.int y :: .int x :: st) h em o := gx_pure (fun F _ k => lv_ior F.1 F.2.1 hd k) k
theorem gx_ixor {x y : Int32} (hd : decode cc pc = .ok (.ixor, 1)) (k : gx_G E own cc nL rt ini d bc bs (pc + 1) L (.int (x ^^^ y) :: st) h em o) : gx_G E own cc nL rt ini d bc bs pc L (.int y :: .int x :: st) h em o := gx_pure (fun F _ k => lv_ixor F.1 F.2.1 hd k) k
theorem gx_ishl {x y : Int32} (hd : decode cc pc = .ok (.ishl, 1)) (k : gx_G E own cc nL rt ini d bc bs (pc + 1) L (.int (x <<< (y &&& 31)) :: st) h em o) : gx_G E own cc nL rt ini d bc bs pc L (.int y :: .int x :: st) h em o := gx_pure (fun F _ k => lv_ishl F.1 F.2.1 hd k) k
theorem gx_ishr {x y : Int32} (hd : decode cc pc = .ok (.ishr, 1)) (k : gx_G E own cc nL rt ini d bc bs (pc + 1) L (.int (x >>> (y &&& 31)) :: st) h em o) : gx_G E own cc nL rt ini d bc bs pc L (.int y :: .int x :: st) h em o := gx_pure (fun F _ k => lv_ishr F.1 F.2.1 hd k) k
theorem gx_ladd {x y : Int64} (hd : decode cc pc = .ok (.ladd, 1)) (k : gx_G E own cc nL rt ini d bc bs (pc + 1) L (.long (x + y) :: st) h em o) : gx_G E own cc nL rt ini d bc bs pc L (.long y :: .long x :: st) h em o := gx_pure (fun F _ k => lv_ladd F.1 F.2.1 hd k) k
theorem gx_lsub {x y : Int64} (hd : decode cc pc = .ok (.lsub, 1)) (k : gx_G E own cc nL rt ini d bc bs (pc + 1) L (.long (x - y) :: st) h em o) : gx_G E own cc nL rt ini d bc bs pc L (.long y :: .long x :: st) h em o := gx_pure (fun F _ k => lv_lsub F.1 F.2.1 hd k) k
theorem gx_lmul {x y : Int64} (hd : decode cc pc = .ok (.lmul, 1)) (k : gx_G E own cc nL rt ini d bc bs (pc + 1) L (.long (x * y) :: st) h em o) : gx_G E own cc nL rt ini d bc bs pc L (.long y :: .long x :: st) h em o := gx_pure (fun F _ k => lv_lmul F.1 F.2.1 hd k) k
theorem gx_lcmp {x y : Int64} (hd : decode cc pc = .ok (.lcmp, 1)) (k : gx_G E own cc nL rt ini d bc bs (pc + 1) L (.int (lg_cmp x y) :: st) h em o) : gx_G E own cc nL rt ini d bc bs pc L (.long y :: .long x :: st) h em o := gx_pure (fun F _ k => W.lcmp F.1 F.2.1 hd k) k
theorem gx_i2l {x : Int32} (hd : decode cc pc = .ok (.i2l, 1)) (k : gx_G E own cc nL rt ini d bc bs (pc + 1) L (.long x.toInt64 :: st) h em o) : gx_G E own cc nL rt ini d bc bs pc L (.int x :: st) h em o := gx_pure (fun F _ k => lv_i2l F.1 F.2.1 hd rfl k) k
theorem gx_l2i {x : Int64} (hd : decode cc pc = .ok (.l2i, 1)) (k : gx_G E own cc nL rt ini d bc bs (pc + 1) L (.int x.toInt32 :: st) h em o) : gx_G E own cc nL rt ini d bc bs pc L (.long x :: st) h em o := gx_pure (fun F _ k => lv_l2i F.1 F.2.1 hd rfl k) k
theorem gx_i2b {x : Int32} (hd : decode cc pc = .ok (.i2b, 1)) (k : gx_G E own cc nL rt ini d bc bs (pc + 1) L (.int x.toInt8.toInt32 :: st) h em o) : gx_G E own cc nL rt ini d bc bs pc L (.int x :: st) h em o := gx_pure (fun F _ k => lv_i2b F.1 F.2.1 hd rfl k) k
theorem gx_i2c {x : Int32} (hd : decode cc pc = .ok (.i2c, 1)) (k : gx_G E own cc nL rt ini d bc bs (pc + 1) L (.int (x.toUInt32 % 65536).toInt32 :: st) h em o) : gx_G E own cc nL rt ini d bc bs pc L (.int x :: st) h em o := gx_pure (fun F _ k => lv_i2c F.1 F.2.1 hd rfl k) k
/-- division: where the divisor is 0 nothing is said -/
def gx_dI (x y : Int32) : Option Int32 := if y = 0 then none else some (x / y)
def gx_rI (x y : Int32) : Option Int32 := if y = 0 then none else some (x - x / y * y)
def gx_dJ (x y : Int64) : Option Int64 := if y = 0 then none else some (x / y)
def gx_rJ (x y : Int64) : Option Int64 := if y = 0 then none else some (x - x / y * y)
theorem gx_bind {α : Type} {a : Option α} {f : α → Option (ρ × gx_H)} (k : ∀ x, a = some x → gx_G E own cc nL rt ini d bc bs pc L st h em (f x)) : gx_G E own cc nL rt ini d bc bs pc L st h em (a.bind f) := by
  intro r h' ho
  obtain ⟨x, hx, hf⟩ := Option.bind_eq_some_iff.mp ho
  exact k x hx r h' hf
theorem gx_idiv {x y : Int32} {f : Int32 → Option (ρ × gx_H)} (hd : decode cc pc = .ok (.idiv, 1)) (k : ∀ z, gx_G E own cc nL rt ini d bc bs (pc + 1) L (.int z :: st) h em (f z)) : gx_G E own cc nL rt ini d bc bs pc L (.int y :: .int x :: st) h em ((gx_dI x y).bind f) := by
  refine gx_bind fun z hz => ?_
  unfold gx_dI at hz
  split at hz
  · cases hz
  · rename_i hne
    cases hz
    exact gx_pure (fun F _ k => lv_idiv F.1 F.2.1 hd hne k) (k _)
theorem gx_irem {x y : Int32} {f : Int32 → Option (ρ × gx_H)} (hd : decode cc pc = .ok (.irem, 1)) (k : ∀ z, gx_G E own cc nL rt ini d bc bs (pc + 1) L (.int z :: st) h em (f z)) : gx_G E own cc nL rt ini d bc bs pc L (.int y :: .int x :: st) h em ((gx_rI x y).bind f) := by
  refine gx_bind fun z hz => ?_
  unfold gx_rI at hz
  split at hz
  · cases hz
  · rename_i hne
    cases hz
    exact gx_pure (fun F _ k => lv_irem F.1 F.2.1 hd hne k) (k _)
theorem gx_ldiv {x y : Int64} {f : Int64 → Option (ρ × gx_H)} (hd : decode cc pc = .ok (.ldiv, 1)) (k : ∀ z, gx_G E own cc nL rt ini d bc bs (pc + 1) L (.long z :: st) h em (f z)) : gx_G E own cc nL rt ini d bc bs pc L (.long y :: .long x :: st) h em ((gx_dJ x y).bind f) := by
  refine gx_bind fun z hz => ?_
  unfold gx_dJ at hz
  split at hz
  · cases hz
  · rename_i hne
    cases hz
    exact gx_pure (fun F _ k => lv_ldiv F.1 F.2.1 hd hne k) (k _)
theorem gx_lrem {x y : Int64} {f : Int64 → Option (ρ × gx_H)} (hd : decode cc pc = .ok (.lrem, 1)) (k : ∀ z, gx_G E own cc nL rt ini d bc bs (pc + 1) L (.long z :: st) h em (f z)) : gx_G E own cc nL rt ini d bc bs pc L (.long y :: .long x :: st) h em ((gx_rJ x y).bind f) := by
  refine gx_bind fun z hz => ?_
  unfold gx_rJ at hz
  split at hz
  · cases hz
  · rename_i hne
    cases hz
    exact gx_pure (fun F _ k => lv_lrem F.1 F.2.1 hd hne k) (k _)
theorem gx_c1 (hE : gx_fm E) {v : Value} (hv : v.category = 1) : (gx_v E v).category = 1 := by
  rcases lv_cat (gx_v E v) with q | q
  · exact q
  · rcases gx_catv hE q with ⟨x, rfl⟩ | ⟨x, rfl⟩ <;> simp [Value.category] at hv
theorem gx_dup {v : Value} (hd : decode cc pc = .ok (.dup, 1)) (hv : v.category = 1) (k : gx_G E own cc nL rt ini d bc bs (pc + 1) L (v :: v :: st) h em o) : gx_G E own cc nL rt ini d bc bs pc L (v :: st) h em o := gx_pure (fun F _ k => lv_dup F.1 F.2.1 hd (gx_c1 F.fm hv) k) k
theorem gx_pop {v : Value} (hd : decode cc pc = .ok (.pop, 1)) (hv : v.category = 1) (k : gx_G E own cc nL rt ini d bc bs (pc + 1) L st h em o) : gx_G E own cc nL rt ini d bc bs pc L (v :: st) h em o := gx_pure (fun F _ k => lv_pop F.1 F.2.1 hd (gx_c1 F.fm hv) k) k
theorem gx_dup_x1 {v w : Value} (hd : decode cc pc = .ok (.dup_x1, 1)) (hv : v.category = 1) (hw : w.category = 1) (k : gx_G E own cc nL rt ini d bc bs (pc + 1) L (v :: w :: v :: st) h em o) : gx_G E own cc nL rt ini d bc bs pc L (v :: w :: st) h em o := gx_pure (fun F _ k => lv_dup_x1 F.1 F.2.1 hd (gx_c1 F.fm hv) (gx_c1 F.fm hw) k) k
theorem gx_dup2 {v w : Value} (hd : decode cc pc = .ok (.dup2, 1)) (hv : v.category = 1) (hw : w.category = 1) (k : gx_G E own cc nL rt ini d bc bs (pc + 1) L (v :: w :: v :: w :: st) h em o) : gx_G E own cc nL rt ini d bc bs pc L (v :: w :: st) h em o := gx_pure (fun F _ k => lv_dup2_11 F.1 F.2.1 hd (gx_c1 F.fm hv) (gx_c1 F.fm hw) k) k
theorem gx_goto {off : Int} (tgt : Nat) (hd : decode cc pc = .ok (.goto off, 3)) (ht : (pc : Int) + off = (tgt : Int)) (k : gx_G E own cc nL rt ini d bc bs tgt L st h em o) : gx_G E own cc nL rt ini d bc bs pc L st h em o := gx_pure (fun F _ k => lv_goto F.1 F.2.1 hd ht k) k
theorem gx_ite {c : Prop} [Decidable c] {o1 o2 : Option (ρ × gx_H)} (k1 : c → gx_G E own cc nL rt ini d bc bs pc L st h em o1) (k2 : ¬ c → gx_G E own cc nL rt ini d bc bs pc L st h em o2) : gx_G E own cc nL rt ini d bc bs pc L st h em (if c then o1 else o2) := by
  by_cases hc : c
  · rw [if_pos hc]; exact k1 hc
  · rw [if_neg hc]; exact k2 hc
end GXR
end
section
section GXS
variable {E : gx_Env} {own : String} {cc : ByteArray} {nL : Nat} {rt : Option FieldType} {ini : Bool} {d bc bs pc : Nat} {L : List (Option Value)} {st : List Value} {h : gx_H} {ρ : Type} {em : ρ → Option Value} {o o1 o2 : Option (ρ × gx_H)}
theorem gx_if_eq {x : Int32} {off : Int} (tgt : Nat) (hd : decode cc pc = .ok (.ifCond .eq off, 3)) (ht : (pc : Int) + off = (tgt : Int)) (k1 : x = 0 → gx_G E own cc nL rt ini d bc bs tgt L st h em o1) (k2 : ¬ x = 0 → gx_G E own cc nL rt ini d bc bs (pc + 3) L st h em o2) : gx_G E own cc nL rt ini d bc bs pc L (.int x :: st) h em (if x = 0 then o1 else o2) :=
  gx_ite (fun q => gx_pure (fun F _ k => lv_if_eq F.1 F.2.1 hd ht (fun _ => k) (fun n => absurd q n)) (k1 q)) (fun q => gx_pure (fun F _ k => lv_if_eq F.1 F.2.1 hd ht (fun n => absurd n q) (fun _ => k)) (k2 q))
theorem gx_icmp_eq {x y : Int32} {off : Int} (tgt : Nat) (hd : decode cc pc = .ok (.if_icmp .eq off, 3)) (ht : (pc : Int) + off = (tgt : Int)) (k1 : x = y → gx_G E own cc nL rt ini d bc bs tgt L st h em o1) (k2 : ¬ x = y → gx_G E own cc nL rt ini d bc bs (pc + 3) L st h em o2) : gx_G E own cc nL rt ini d bc bs pc L (.int y :: .int x :: st) h em (if x = y then o1 else o2) :=
  gx_ite (fun q => gx_pure (fun F _ k => lv_icmp_eq F.1 F.2.1 hd ht (fun _ => k) (fun n => absurd q n)) (k1 q)) (fun q => gx_pure (fun F _ k => lv_icmp_eq F.1 F.2.1 hd ht (fun n => absurd n q) (fun _ => k)) (k2 q))
theorem gx_if_lt {x : Int32} {off : Int} (tgt : Nat) (hd : decode cc pc = .ok (.ifCond .lt off, 3)) (ht : (pc : Int) + off = (tgt : Int)) (k1 : x < 0 → gx_G E own cc nL rt ini d bc bs tgt L st h em o1) (k2 : ¬ x < 0 → gx_G E own cc nL rt ini d bc bs (pc + 3) L st h em o2) : gx_G E own cc nL rt ini d bc bs pc L (.int x :: st) h em (if x < 0 then o1 else o2) :=
  gx_ite (fun q => gx_pure (fun F _ k => lv_if_lt F.1 F.2.1 hd ht (fun _ => k) (fun n => absurd q n)) (k1 q)) (fun q => gx_pure (fun F _ k => lv_if_lt F.1 F.2.1 hd ht (fun n => absurd n q) (fun _ => k)) (k2 q))
theorem gx_icmp_lt {x y : Int32} {off : Int} (tgt : Nat) (hd : decode cc pc = .ok (.if_icmp .lt off, 3)) (ht : (pc : Int) + off = (tgt : Int)) (k1 : x < y → gx_G E own cc nL rt ini d bc bs tgt L st h em o1) (k2 : ¬ x < y → gx_G E own cc nL rt ini d bc bs (pc + 3) L st h em o2) : gx_G E own cc nL rt ini d bc bs pc L (.int y :: .int x :: st) h em (if x < y then o1 else o2) :=
  gx_ite (fun q => gx_pure (fun F _ k => lv_icmp_lt F.1 F.2.1 hd ht (fun _ => k) (fun n => absurd q n)) (k1 q)) (fun q => gx_pure (fun F _ k => lv_icmp_lt F.1 F.2.1 hd ht (fun n => absurd n q) (fun _ => k)) (k2 q))
theorem gx_if_ge {x : Int32} {off : Int} (tgt : Nat) (hd : decode cc pc = .ok (.ifCond .ge off, 3)) (ht : (pc : Int) + off = (tgt : Int)) (k1 : 0 ≤ x → gx_G E own cc nL rt ini d bc bs tgt L st h em o1) (k2 : ¬ 0 ≤ x → gx_G E own cc nL rt ini d bc bs (pc + 3) L st h em o2) : gx_G E own cc nL rt ini d bc bs pc L (.int x :: st) h em (if 0 ≤ x then o1 else o2) :=
  gx_ite (fun q => gx_pure (fun F _ k => lv_if_ge F.1 F.2.1 hd ht (fun _ => k) (fun n => absurd q n)) (k1 q)) (fun q => gx_pure (fun F _ k => lv_if_ge F.1 F.2.1 hd ht (fun n => absurd n q) (fun _ => k)) (k2 q))
theorem gx_icmp_ge {x y : Int32} {off : Int} (tgt : Nat) (hd : decode cc pc = .ok (.if_icmp .ge off, 3)) (ht : (pc : Int) + off = (tgt : Int)) (k1 : y ≤ x → gx_G E own cc nL rt ini d bc bs tgt L st h em o1) (k2 : ¬ y ≤ x → gx_G E own cc nL rt ini d bc bs (pc + 3) L st h em o2) : gx_G E own cc nL rt ini d bc bs pc L (.int y :: .int x :: st) h em (if y ≤ x then o1 else o2) :=
  gx_ite (fun q => gx_pure (fun F _ k => lv_icmp_ge F.1 F.2.1 hd ht (fun _ => k) (fun n => absurd q n)) (k1 q)) (fun q => gx_pure (fun F _ k => lv_icmp_ge F.1 F.2.1 hd ht (fun n => absurd n q) (fun _ => k)) (k2 q))
theorem gx_if_gt {x : Int32} {off : Int} (tgt : Nat) (hd : decode cc pc = .ok (.ifCond .gt off, 3)) (ht : (pc : Int) + off = (tgt : Int)) (k1 : 0 < x → gx_G E own cc nL rt ini d bc bs tgt L st h em o1) (k2 : ¬ 0 < x → gx_G E own cc nL rt ini d bc bs (pc + 3) L st h em o2) : gx_G E own cc nL rt ini d bc bs pc L (.int x :: st) h em (if 0 < x then o1 else o2) :=
  gx_ite (fun q => gx_pure (fun F _ k => lv_if_gt F.1 F.2.1 hd ht (fun _ => k) (fun n => absurd q n)) (k1 q)) (fun q => gx_pure (fun F _ k => lv_if_gt F.1 F.2.1 hd ht (fun n => absurd n q) (fun _ => k)) (k2 q))
theorem gx_icmp_gt {x y : Int32} {off : Int} (tgt : Nat) (hd : decode cc pc = .ok (.if_icmp .gt off, 3)) (ht : (pc : Int) + off = (tgt : Int)) (k1 : y < x → gx_G E own cc nL rt ini d bc bs tgt L st h em o1) (k2 : ¬ y < x → gx_G E own cc nL rt ini d bc bs (pc + 3) L st h em o2) : gx_G E own cc nL rt ini d bc bs pc L (.int y :: .int x :: st) h em (if y < x then o1 else o2) :=
  gx_ite (fun q => gx_pure (fun F _ k => lv_icmp_gt F.1 F.2.1 hd ht (fun _ => k) (fun n => absurd q n)) (k1 q)) (fun q => gx_pure (fun F _ k => lv_icmp_gt F.1 F.2.1 hd ht (fun n => absurd n q) (fun _ => k)) (k2 q))
theorem gx_if_le {x : Int32} {off : Int} (tgt : Nat) (hd : decode cc pc = .ok (.ifCond .le off, 3)) (ht : (pc : Int) + off = (tgt : Int)) (k1 : x ≤ 0 → gx_G E own cc nL rt ini d bc bs tgt L st h em o1) (k2 : ¬ x ≤ 0 → gx_G E own cc nL rt ini d bc bs (pc + 3) L st h em o2) : gx_G E own cc nL rt ini d bc bs pc L (.int x :: st) h em (if x ≤ 0 then o1 else o2) :=
  gx_ite (fun q => gx_pure (fun F _ k => lv_if_le F.1 F.2.1 hd ht (fun _ => k) (fun n => absurd q n)) (k1 q)) (fun q => gx_pure (fun F _ k => lv_if_le F.1 F.2.1 hd ht (fun n => absurd n q) (fun _ => k)) (k2 q))
theorem gx_icmp_le {x y : Int32} {off : Int} (tgt : Nat) (hd : decode cc pc = .ok (.if_icmp .le off, 3)) (ht : (pc : Int) + off = (tgt : Int)) (k1 : x ≤ y → gx_G E own cc nL rt ini d bc bs tgt L st h em o1) (k2 : ¬ x ≤ y → gx_G E own cc nL rt ini d bc bs (pc + 3) L st h em o2) : gx_G E own cc nL rt ini d bc bs pc L (.int y :: .int x :: st) h em (if x ≤ y then o1 else o2) :=
  gx_ite (fun q => gx_pure (fun F _ k => lv_icmp_le F.1 F.2.1 hd ht (fun _ => k) (fun n => absurd q n)) (k1 q)) (fun q => gx_pure (fun F _ k => lv_icmp_le F.1 F.2.1 hd ht (fun n => absurd n q) (fun _ => k)) (k2 q))
theorem gx_if_ne {x : Int32} {off : Int} (tgt : Nat) (hd : decode cc pc = .ok (.ifCond .ne off, 3)) (ht : (pc : Int) + off = (tgt : Int)) (k1 : ¬ x = 0 → gx_G E own cc nL rt ini d bc bs tgt L st h em o1) (k2 : x = 0 → gx_G E own cc nL rt ini d bc bs (pc + 3) L st h em o2) : gx_G E own cc nL rt ini d bc bs pc L (.int x :: st) h em (if x = 0 then o2 else o1) :=
  gx_ite (fun q => gx_pure (fun F _ k => lv_if_ne F.1 F.2.1 hd ht (fun n => absurd q n) (fun _ => k)) (k2 q)) (fun q => gx_pure (fun F _ k => lv_if_ne F.1 F.2.1 hd ht (fun _ => k) (fun n => absurd n q)) (k1 q))
theorem gx_icmp_ne {x y : Int32} {off : Int} (tgt : Nat) (hd : decode cc pc = .ok (.if_icmp .ne off, 3)) (ht : (pc : Int) + off = (tgt : Int)) (k1 : ¬ x = y → gx_G E own cc nL rt ini d bc bs tgt L st h em o1) (k2 : x = y → gx_G E own cc nL rt ini d bc bs (pc + 3) L st h em o2) : gx_G E own cc nL rt ini d bc bs pc L (.int y :: .int x :: st) h em (if x = y then o2 else o1) :=
  gx_ite (fun q => gx_pure (fun F _ k => lv_icmp_ne F.1 F.2.1 hd ht (fun n => absurd q n) (fun _ => k)) (k2 q)) (fun q => gx_pure (fun F _ k => lv_icmp_ne F.1 F.2.1 hd ht (fun _ => k) (fun n => absurd n q)) (k1 q))
theorem gx_tabIn {dflt lo hi : Int} {offs : Array Int} {len : Nat} {x : Int32} {off : Int} (tgt : Nat) (hd : decode cc pc = .ok (.tableswitch dflt lo hi offs, len)) (h1 : ¬ x.toInt < lo) (h2 : ¬ hi < x.toInt) (ho : offs[(x.toInt - lo).toNat]? = some off) (ht : (pc : Int) + off = (tgt : Int)) (k : gx_G E own cc nL rt ini d bc bs tgt L st h em o) : gx_G E own cc nL rt ini d bc bs pc L (.int x :: st) h em o := gx_pure (fun F _ k => lv_tableIn F.1 F.2.1 hd h1 h2 ho ht k) k
theorem gx_tabOut {dflt lo hi : Int} {offs : Array Int} {len : Nat} {x : Int32} (tgt : Nat) (hd : decode cc pc = .ok (.tableswitch dflt lo hi offs, len)) (hx : x.toInt < lo ∨ hi < x.toInt) (ht : (pc : Int) + dflt = (tgt : Int)) (k : gx_G E own cc nL rt ini d bc bs tgt L st h em o) : gx_G E own cc nL rt ini d bc bs pc L (.int x :: st) h em o := gx_pure (fun F _ k => lv_tableOut F.1 F.2.1 hd hx ht k) k
theorem gx_look {dflt : Int} {ps : Array (Int × Int)} {len : Nat} {x : Int32} {off : Int} (tgt : Nat) (hd : decode cc pc = .ok (.lookupswitch dflt ps, len)) (hp : (ps.toList.zip (ps.toList.drop 1)).all (fun (a, next) => a.1 < next.1) = true) (ho : Op.lookupswitch.offset ps.toList dflt x.toInt = off) (ht : (pc : Int) + off = (tgt : Int)) (k : gx_G E own cc nL rt ini d bc bs tgt L st h em o) : gx_G E own cc nL rt ini d bc bs pc L (.int x :: st) h em o := gx_pure (fun F _ k => lv_lookup F.1 F.2.1 hd hp ho ht k) k
theorem gx_istore_n {n : Fin 4} (i : Nat) {x : Int32} (L' : List (Option Value)) (hd : decode cc pc = .ok (.istore_n n, 1)) (hi : (n : Nat) = i) (hn : i < nL) (hl : gx_set1 L i (.int x) = L') (k : gx_G E own cc nL rt ini d bc bs (pc + 1) L' st h em o) : gx_G E own cc nL rt ini d bc bs pc L (.int x :: st) h em o := by
  subst hl
  intro r h' ho p e R s m args below meth c Q F hR H locs cells slots ls hP hS hc hs hL
  exact lv_istore_n (nL := nL) F.1 F.2.1 hd hi hL.2 hn rfl (fun ls' hL' => k r h' ho p e R s m args below meth c Q F hR H locs cells slots ls' hP hS hc hs (hL.set1 (v := .int x) F.fm hL'))
theorem gx_istore {i : Nat} {x : Int32} (L' : List (Option Value)) (hd : decode cc pc = .ok (.istore i, 2)) (hn : i < nL) (hl : gx_set1 L i (.int x) = L') (k : gx_G E own cc nL rt ini d bc bs (pc + 2) L' st h em o) : gx_G E own cc nL rt ini d bc bs pc L (.int x :: st) h em o := by
  subst hl
  intro r h' ho p e R s m args below meth c Q F hR H locs cells slots ls hP hS hc hs hL
  exact lv_istore (nL := nL) F.1 F.2.1 hd hL.2 hn rfl (fun ls' hL' => k r h' ho p e R s m args below meth c Q F hR H locs cells slots ls' hP hS hc hs (hL.set1 (v := .int x) F.fm hL'))
theorem gx_astore_n {n : Fin 4} (i : Nat) {x : Nat} (L' : List (Option Value)) (hd : decode cc pc = .ok (.astore_n n, 1)) (hi : (n : Nat) = i) (hn : i < nL) (hl : gx_set1 L i (.ref x) = L') (k : gx_G E own cc nL rt ini d bc bs (pc + 1) L' st h em o) : gx_G E own cc nL rt ini d bc bs pc L (.ref x :: st) h em o := by
  subst hl
  intro r h' ho p e R s m args below meth c Q F hR H locs cells slots ls hP hS hc hs hL
  exact lv_astore_n (nL := nL) F.1 F.2.1 hd hi hL.2 hn rfl (fun ls' hL' => k r h' ho p e R s m args below meth c Q F hR H locs cells slots ls' hP hS hc hs (hL.set1 (v := .ref x) F.fm hL'))
theorem gx_astore {i : Nat} {x : Nat} (L' : List (Option Value)) (hd : decode cc pc = .ok (.astore i, 2)) (hn : i < nL) (hl : gx_set1 L i (.ref x) = L') (k : gx_G E own cc nL rt ini d bc bs (pc + 2) L' st h em o) : gx_G E own cc nL rt ini d bc bs pc L (.ref x :: st) h em o := by
  subst hl
  intro r h' ho p e R s m args below meth c Q F hR H locs cells slots ls hP hS hc hs hL
  exact lv_astore (nL := nL) F.1 F.2.1 hd hL.2 hn rfl (fun ls' hL' => k r h' ho p e R s m args below meth c Q F hR H locs cells slots ls' hP hS hc hs (hL.set1 (v := .ref x) F.fm hL'))
theorem gx_lstore_n {n : Fin 4} (i : Nat) {x : Int64} (L' : List (Option Value)) (hd : decode cc pc = .ok (.lstore_n n, 1)) (hi : (n : Nat) = i) (hn : i + 1 < nL) (hl : gx_set2 L i (.long x) = L') (k : gx_G E own cc nL rt ini d bc bs (pc + 1) L' st h em o) : gx_G E own cc nL rt ini d bc bs pc L (.long x :: st) h em o := by
  subst hl
  intro r h' ho p e R s m args below meth c Q F hR H locs cells slots ls hP hS hc hs hL
  exact lv_lstore_n (nL := nL) F.1 F.2.1 hd hi hL.2 hn rfl (fun ls' hL' => k r h' ho p e R s m args below meth c Q F hR H locs cells slots ls' hP hS hc hs (hL.set2 (v := .long x) F.fm hL'))
theorem gx_lstore {i : Nat} {x : Int64} (L' : List (Option Value)) (hd : decode cc pc = .ok (.lstore i, 2)) (hn : i + 1 < nL) (hl : gx_set2 L i (.long x) = L') (k : gx_G E own cc nL rt ini d bc bs (pc + 2) L' st h em o) : gx_G E own cc nL rt ini d bc bs pc L (.long x :: st) h em o := by
  subst hl
  intro r h' ho p e R s m args below meth c Q F hR H locs cells slots ls hP hS hc hs hL
  exact lv_lstore (nL := nL) F.1 F.2.1 hd hL.2 hn rfl (fun ls' hL' => k r h' ho p e R s m args below meth c Q F hR H locs cells slots ls' hP hS hc hs (hL.set2 (v := .long x) F.fm hL'))
theorem gx_iinc {i : Nat} {n : Int} {x : Int32} (y : Int32) (L' : List (Option Value)) (hd : decode cc pc = .ok (.iinc i n, 3)) (hx : L[i]? = some (some (.int x))) (hv : Int32.ofInt n = y) (hn : i < nL) (hl : gx_set1 L i (.int (x + y)) = L') (k : gx_G E own cc nL rt ini d bc bs (pc + 3) L' st h em o) : gx_G E own cc nL rt ini d bc bs pc L st h em o := by
  subst hl
  subst hv
  intro r h' ho p e R s m args below meth c Q F hR H locs cells slots ls hP hS hc hs hL
  obtain ⟨q, hq⟩ := List.getElem?_of_mem (List.mem_map.mpr ⟨(i, .int x), (gx_as_iff L 0 i (.int x)).mpr ⟨Nat.zero_le _, hx⟩, rfl⟩ : (i, gx_v E (.int x)) ∈ (gx_as 0 L).map (fun q => (q.1, gx_v E q.2)))
  exact lv_iinc (nL := nL) F.1 F.2.1 hd hL.2 hq rfl hn rfl (fun ls' hL' => k r h' ho p e R s m args below meth c Q F hR H locs cells slots ls' hP hS hc hs (hL.set1 (v := .int (x + Int32.ofInt n)) F.fm hL'))
end GXS
end
section
/-! fields, arrays, what is made -/
def gx_fld (h : gx_H) (a ci k : Nat) : Option Value := match h.2 a with
  | .inr x => if x.1 = ci then x.2[k]? else none
  | .inl _ => none
def gx_fI (h : gx_H) (a ci k : Nat) : Option Int32 := match gx_fld h a ci k with
  | some (.int x) => some x
  | _ => none
def gx_fJ (h : gx_H) (a ci k : Nat) : Option Int64 := match gx_fld h a ci k with
  | some (.long x) => some x
  | _ => none
def gx_fR (h : gx_H) (a ci k : Nat) : Option Nat := match gx_fld h a ci k with
  | some (.ref x) => some x
  | _ => none
def gx_pF (h : gx_H) (a ci k : Nat) (v : Value) : Option gx_H := match h.2 a with
  | .inr x => if x.1 = ci ∧ k < x.2.length then some (h.1, va_up h.2 a (.inr (ci, x.2.set k v))) else none
  | .inl _ => none
def gx_isO (h : gx_H) (a ci : Nat) : Option Unit := match h.2 a with
  | .inr x => if x.1 = ci ∧ ci < 10 then some () else none
  | .inl _ => none
def gx_aI (t : Nat) (h : gx_H) (a : Nat) (i : Int32) : Option Int32 := match h.2 a with
  | .inl (t', n, .inl f) => if t' = t ∧ ¬ (i < 0 ∨ n ≤ i.toNatClampNeg) then some (f i.toNatClampNeg) else none
  | _ => none
def gx_sI (t : Nat) (h : gx_H) (a : Nat) (i x : Int32) : Option gx_H := match h.2 a with
  | .inl (t', n, .inl f) => if t' = t ∧ ¬ (i < 0 ∨ n ≤ i.toNatClampNeg) then some (h.1, va_up h.2 a (.inl (t, n, .inl (upd f i.toNatClampNeg x)))) else none
  | _ => none
def gx_aR (t : Nat) (h : gx_H) (a : Nat) (i : Int32) : Option Nat := match h.2 a with
  | .inl (t', n, .inr (.inr (.inr (.inr f)))) => if t' = t ∧ ¬ (i < 0 ∨ n ≤ i.toNatClampNeg) then f i.toNatClampNeg else none
  | _ => none
def gx_sR (t : Nat) (h : gx_H) (a : Nat) (i : Int32) (v : Nat) : Option gx_H := match h.2 a with
  | .inl (t', n, .inr (.inr (.inr (.inr f)))) => if t' = t ∧ ¬ (i < 0 ∨ n ≤ i.toNatClampNeg) then some (h.1, va_up h.2 a (.inl (t, n, .inr (.inr (.inr (.inr (va_up f i.toNatClampNeg (some v)))))))) else none
  | _ => none
def gx_al (h : gx_H) (a : Nat) : Option Int32 := match h.2 a with
  | .inl x => if x.1 < 5 then some (Int32.ofNat x.2.1) else none
  | .inr _ => none
def gx_new (c : gx_C) (h : gx_H) : gx_H := (h.1 + 1, va_up h.2 h.1 c)
/-- the cell's number fits an array of references -/
def gx_isE (h : gx_H) (a ci : Nat) : Prop := ∃ fs, h.2 a = .inr (ci, fs)
theorem gx_isO_of {α : Type} {h : gx_H} {a ci : Nat} {f : Unit → Option α} {x : α} (q : (gx_isO h a ci).bind f = some x) : ci < 10 ∧ ∃ fs, h.2 a = .inr (ci, fs) := by
  obtain ⟨u, hu, -⟩ := Option.bind_eq_some_iff.mp q
  unfold gx_isO at hu
  split at hu
  · rename_i y hy
    split at hu
    · rename_i hc
      obtain ⟨rfl, h2⟩ := hc
      exact ⟨h2, y.2, hy⟩
    · cases hu
  · cases hu
def gx_Fld (own : String) (idx ci k : Nat) : Prop := ∃ (C : String) (T : u_T) (N : Nat), vwCl[ci]? = some (C, T, N) ∧ (∀ w ∈ u_ws C T N, w ∈ gx_tbl) ∧ k < N ∧ Cond.fieldLink own idx (T k).1 (T k).2.1 (T k).2.2.1 ∈ gx_tbl
def gx_FldP (own : String) (idx ci k : Nat) (fin : Bool) (ty : FieldType) : Prop := ∃ (C : String) (T : u_T) (N : Nat), vwCl[ci]? = some (C, T, N) ∧ (∀ w ∈ u_ws C T N, w ∈ gx_tbl) ∧ k < N ∧ Cond.fieldLink own idx (T k).1 (T k).2.1 (T k).2.2.1 ∈ gx_tbl ∧
  (∃ tf : Nat → FieldType, ∀ k, k < N → parseFieldDescriptor (T k).2.2.1 = some (tf k)) ∧ (∀ a, a < N → ∀ b, b < N → a ≠ b → (T a).2.1 ≠ (T b).2.1) ∧ (T k).2.2.2 = fin ∧ parseFieldDescriptor (T k).2.2.1 = some ty ∧ (fin = true → (T k).1 = own)
def gx_Cls (own : String) (idx ci N : Nat) (fs : List Value) : Prop := ∃ (C : String) (T : u_T) (ty : Nat → FieldType), vwCl[ci]? = some (C, T, N) ∧ (∀ w ∈ u_ws C T N, w ∈ gx_tbl) ∧ (∀ k, k < N → parseFieldDescriptor (T k).2.2.1 = some (ty k)) ∧ Cond.classLink own idx C ∈ gx_tbl ∧ Cond.instantiable C N ∈ gx_tbl ∧ Cond.initialized C ∈ gx_tbl ∧ ∀ j, j < N → defaultValue (ty j) = vp_V fs j
theorem gx_fld_of {h : gx_H} {a ci k : Nat} {v : Value} (q : gx_fld h a ci k = some v) : ∃ fs, h.2 a = .inr (ci, fs) ∧ fs[k]? = some v := by
  unfold gx_fld at q
  split at q
  · rename_i y hy
    split at q
    · rename_i hc
      subst hc
      exact ⟨y.2, hy, q⟩
    · cases q
  · cases q
theorem gx_ne_junk {h : gx_H} {a ci k : Nat} {fs : List Value} {v : Value} (h1 : h.2 a = .inr (ci, fs)) (h2 : fs[k]? = some v) : h.2 a ≠ gx_junk := fun q => by
  rw [h1] at q
  cases q
  simp at h2
theorem gx_fI_of {h : gx_H} {a ci k : Nat} {x : Int32} (q : gx_fI h a ci k = some x) : gx_fld h a ci k = some (.int x) := by
  unfold gx_fI at q
  split at q
  · cases q; assumption
  · cases q
theorem gx_fJ_of {h : gx_H} {a ci k : Nat} {x : Int64} (q : gx_fJ h a ci k = some x) : gx_fld h a ci k = some (.long x) := by
  unfold gx_fJ at q
  split at q
  · cases q; assumption
  · cases q
theorem gx_fR_of {h : gx_H} {a ci k : Nat} {x : Nat} (q : gx_fR h a ci k = some x) : gx_fld h a ci k = some (.ref x) := by
  unfold gx_fR at q
  split at q
  · cases q; assumption
  · cases q
section GXH
variable {E : gx_Env} {own : String} {cc : ByteArray} {nL : Nat} {rt : Option FieldType} {ini : Bool} {d bc bs pc : Nat} {L : List (Option Value)} {st : List Value} {h : gx_H} {ρ : Type} {em : ρ → Option Value} {o o1 o2 : Option (ρ × gx_H)}
theorem gx_getV {idx ci k a : Nat} {v : Value} (hF : gx_Fld own idx ci k) (hd : decode cc pc = .ok (.getfield idx, 3)) (hv : gx_fld h a ci k = some v) (kk : gx_G E own cc nL rt ini d bc bs (pc + 3) L (v :: st) h em o) : gx_G E own cc nL rt ini d bc bs pc L (.ref a :: st) h em o := by
  intro r h' ho p e R s m args below meth c Q F hR H locs cells slots ls hP hS hc hs hL
  obtain ⟨C, T, N, f1, f2, f3, f4⟩ := hF
  obtain ⟨fs, g1, g2⟩ := gx_fld_of hv
  have hlt := hP.lt (gx_ne_junk g1 g2)
  refine va_get (Ts := gx_tbl) (ref := (T k).1) F.1 F.2.1 F.2.2.2.2.1 f2 F.2.2.2.1 F.2.2.2.2.2.1.1 (hP.one hlt g1) 0 (ci := ci) (fs := fs.map (gx_v E)) rfl f1 k f3 (F.2.2.2.2.1 _ f4) (fun x hx => hx) (v := gx_v E v) (by rw [List.getElem?_map, g2]; rfl) hd ?_
  exact kk r h' ho p e R s m args below meth c Q F hR H locs cells slots ls hP hS hc hs hL
theorem gx_getI {idx ci k a : Nat} {f : Int32 → Option (ρ × gx_H)} (hF : gx_Fld own idx ci k) (hd : decode cc pc = .ok (.getfield idx, 3)) (kk : ∀ x, gx_G E own cc nL rt ini d bc bs (pc + 3) L (.int x :: st) h em (f x)) : gx_G E own cc nL rt ini d bc bs pc L (.ref a :: st) h em ((gx_fI h a ci k).bind f) := gx_bind fun x hx => gx_getV hF hd (gx_fI_of hx) (kk x)
theorem gx_getJ {idx ci k a : Nat} {f : Int64 → Option (ρ × gx_H)} (hF : gx_Fld own idx ci k) (hd : decode cc pc = .ok (.getfield idx, 3)) (kk : ∀ x, gx_G E own cc nL rt ini d bc bs (pc + 3) L (.long x :: st) h em (f x)) : gx_G E own cc nL rt ini d bc bs pc L (.ref a :: st) h em ((gx_fJ h a ci k).bind f) := gx_bind fun x hx => gx_getV hF hd (gx_fJ_of hx) (kk x)
theorem gx_getR {idx ci k a : Nat} {f : Nat → Option (ρ × gx_H)} (hF : gx_Fld own idx ci k) (hd : decode cc pc = .ok (.getfield idx, 3)) (kk : ∀ x, gx_G E own cc nL rt ini d bc bs (pc + 3) L (.ref x :: st) h em (f x)) : gx_G E own cc nL rt ini d bc bs pc L (.ref a :: st) h em ((gx_fR h a ci k).bind f) := gx_bind fun x hx => gx_getV hF hd (gx_fR_of hx) (kk x)
theorem gx_pF_of {h h1 : gx_H} {a ci k : Nat} {v : Value} (q : gx_pF h a ci k v = some h1) : ∃ fs, h.2 a = .inr (ci, fs) ∧ k < fs.length ∧ h1 = (h.1, va_up h.2 a (.inr (ci, fs.set k v))) := by
  unfold gx_pF at q
  split at q
  · rename_i y hy
    split at q
    · rename_i hc
      obtain ⟨rfl, h2⟩ := hc
      cases q
      exact ⟨y.2, hy, h2, rfl⟩
    · cases q
  · cases q
theorem gx_putV {idx ci k a : Nat} {v : Value} {fin : Bool} {ty : FieldType} {f : gx_H → Option (ρ × gx_H)} (hF : gx_FldP own idx ci k fin ty) (hi : fin = true → ini = true) (hd : decode cc pc = .ok (.putfield idx, 3)) (hn : narrow ty (gx_v E v) = gx_v E v) (hfit : fits ty (gx_v E v) = true)
    (kk : ∀ h1, gx_G E own cc nL rt ini d bc bs (pc + 3) L st h1 em (f h1)) : gx_G E own cc nL rt ini d bc bs pc L (v :: .ref a :: st) h em ((gx_pF h a ci k v).bind f) := by
  refine gx_bind fun h1 hx => ?_
  obtain ⟨fs, g1, g2, rfl⟩ := gx_pF_of hx
  intro r h' ho p e R s m args below meth c Q F hR H locs cells slots ls hP hS hcc hs hL
  obtain ⟨C, T, N, hc, hin, hk, hlink, ⟨tf, hty⟩, hnm, hfin, hpd, hdecl⟩ := hF
  have hlt := hP.lt (gx_ne_junk g1 (List.getElem?_eq_getElem g2))
  have hK := F.2.2.2.2.2.1.1
  have hts := F.2.2.2.2.1
  have hap := va_apart (own := own) hts hin tf hty hnm hK hc
  have hat := hP.2.1 a hlt
  rw [g1] at hat
  obtain ⟨r', h1', cell, q1, q2, q3, q4⟩ := hat
  have hr : r' = (C, T, N) := Option.some.inj (h1'.symm.trans hc)
  subst hr
  obtain ⟨hSl, hfc, kC, hkC, hkind⟩ := hK.1 ci _ hc
  obtain ⟨cf, kf, fi, fd, hfi, hsl⟩ := hSl k hk
  have hlay := hts _ (hin _ (u_in_lay hk))
  unfold u_lay at hlay
  have hst := (u_facts hfc hkC (u_lays hts hin hk) hfi).1
  have fin' : ∀ (H' : Heap), H'[gx_b E + a]? = some (cell.setSlot fd.slot (gx_v E v)) → H'.size = H.size → (∀ q, q ≠ gx_b E + a → H'[q]? = H[q]?) → W p (gx_l E) e R s m args below meth c H' (locs ++ [⟨gx_b E + a, fd.slot⟩]) cells slots Q (F0 m (pc + 3) ls (st.map (gx_v E))) := by
    intro H' e1 e2 e3
    refine kk _ r h' ho p e R s m args below meth c Q F hR H' _ cells slots ls (hP.set hlt e2 e3 ⟨_, hc, ?_⟩) (hS.put e2 e3 (Nat.le_add_right _ _)) hcc hs hL
    rw [hsl] at e1
    show t_OB _ _ _ _ H' (vp_V ((fs.set k v).map (gx_v E)))
    rw [List.map_set]
    exact t_OB.to (V := updV (vp_V (fs.map (gx_v E))) k (gx_v E v)) ⟨_, e1, q2, q3, t_set q4 hap hk _⟩ (fun j _ => vp_updV_set (by rw [List.length_map]; exact g2) _ j)
  cases fin with
  | false =>
    rw [if_neg (by rw [hfin]; decide)] at hlay
    have h6 := u_store hfc hkC hkind hlay hfi hpd hn hfit
    exact W.putK F.1 F.2.1 (f := fd) ⟨F.2.2.2.1, hts _ hlink, ⟨_, _, _, hfi⟩, hst⟩ (by rw [q2]; exact h6) q1 q3 (by rw [hsl]; exact k2_hasslot (q4 k hk)) rfl rfl hd fin'
  | true =>
    rw [if_pos hfin] at hlay
    have hcf : m.cls = cf := by
      obtain ⟨_, _, c', _, _, _, -, -, hf', -, -, -, hown2, -⟩ := Cond.laysFinal_spec hlay
      have e1 : c' = cf := by have := hfi.symm.trans hf'; simp at this; exact this.1.symm
      rw [hdecl rfl] at hown2
      rw [← e1]; exact Option.some.inj (F.2.2.2.1.symm.trans hown2)
    have h6 := u_fits hfc hkC hkind (Or.inr hlay) hfi hpd hn hfit
    exact W.putFinK F.1 F.2.1 F.2.2.2.1 (hts _ hlink) hfi hst hcf (F.2.2.2.2.2.2.2.1 (hi rfl)) (by rw [q2]; exact h6) q1 q3 (by rw [hsl]; exact k2_hasslot (q4 k hk)) rfl rfl hd fin'
theorem gx_putI {idx ci k a : Nat} {x : Int32} {fin : Bool} {f : gx_H → Option (ρ × gx_H)} (hF : gx_FldP own idx ci k fin .int) (hi : fin = true → ini = true) (hd : decode cc pc = .ok (.putfield idx, 3)) (kk : ∀ h1, gx_G E own cc nL rt ini d bc bs (pc + 3) L st h1 em (f h1)) : gx_G E own cc nL rt ini d bc bs pc L (.int x :: .ref a :: st) h em ((gx_pF h a ci k (.int x)).bind f) := gx_putV hF hi hd rfl rfl kk
theorem gx_putJ {idx ci k a : Nat} {x : Int64} {fin : Bool} {f : gx_H → Option (ρ × gx_H)} (hF : gx_FldP own idx ci k fin .long) (hi : fin = true → ini = true) (hd : decode cc pc = .ok (.putfield idx, 3)) (kk : ∀ h1, gx_G E own cc nL rt ini d bc bs (pc + 3) L st h1 em (f h1)) : gx_G E own cc nL rt ini d bc bs pc L (.long x :: .ref a :: st) h em ((gx_pF h a ci k (.long x)).bind f) := gx_putV hF hi hd rfl rfl kk
theorem gx_putO {idx ci k a x : Nat} {fin : Bool} {C : String} {f : gx_H → Option (ρ × gx_H)} (hF : gx_FldP own idx ci k fin (.object C)) (hi : fin = true → ini = true) (hd : decode cc pc = .ok (.putfield idx, 3)) (kk : ∀ h1, gx_G E own cc nL rt ini d bc bs (pc + 3) L st h1 em (f h1)) : gx_G E own cc nL rt ini d bc bs pc L (.ref x :: .ref a :: st) h em ((gx_pF h a ci k (.ref x)).bind f) := gx_putV hF hi hd rfl rfl kk
theorem gx_putA {idx ci k a x : Nat} {fin : Bool} {C : FieldType} {f : gx_H → Option (ρ × gx_H)} (hF : gx_FldP own idx ci k fin (.array C)) (hi : fin = true → ini = true) (hd : decode cc pc = .ok (.putfield idx, 3)) (kk : ∀ h1, gx_G E own cc nL rt ini d bc bs (pc + 3) L st h1 em (f h1)) : gx_G E own cc nL rt ini d bc bs pc L (.ref x :: .ref a :: st) h em ((gx_pF h a ci k (.ref x)).bind f) := gx_putV hF hi hd rfl rfl kk
end GXH
end
section
section GXA
variable {E : gx_Env} {own : String} {cc : ByteArray} {nL : Nat} {rt : Option FieldType} {ini : Bool} {d bc bs pc : Nat} {L : List (Option Value)} {st : List Value} {h : gx_H} {ρ : Type} {em : ρ → Option Value} {o o1 o2 : Option (ρ × gx_H)}
theorem gx_aI_of {t : Nat} {h : gx_H} {a : Nat} {i x : Int32} (q : gx_aI t h a i = some x) : ∃ (n : Nat) (f : Nat → Int32), h.2 a = .inl (t, n, .inl f) ∧ vp_in i n ∧ x = f i.toNatClampNeg := by
  unfold gx_aI at q
  split at q
  · rename_i t' n f hy
    split at q
    · rename_i hc
      obtain ⟨rfl, h2⟩ := hc
      cases q
      exact ⟨n, f, hy, h2, rfl⟩
    · cases q
  · cases q
theorem gx_sI_of {t : Nat} {h h1 : gx_H} {a : Nat} {i x : Int32} (q : gx_sI t h a i x = some h1) : ∃ (n : Nat) (f : Nat → Int32), h.2 a = .inl (t, n, .inl f) ∧ vp_in i n ∧ h1 = (h.1, va_up h.2 a (.inl (t, n, .inl (upd f i.toNatClampNeg x)))) := by
  unfold gx_sI at q
  split at q
  · rename_i t' n f hy
    split at q
    · rename_i hc
      obtain ⟨rfl, h2⟩ := hc
      cases q
      exact ⟨n, f, hy, h2, rfl⟩
    · cases q
  · cases q
theorem gx_aR_of {t : Nat} {h : gx_H} {a : Nat} {i : Int32} {x : Nat} (q : gx_aR t h a i = some x) : ∃ (n : Nat) (f : Nat → Option Nat), h.2 a = .inl (t, n, .inr (.inr (.inr (.inr f)))) ∧ vp_in i n ∧ f i.toNatClampNeg = some x := by
  unfold gx_aR at q
  split at q
  · rename_i t' n f hy
    split at q
    · rename_i hc
      obtain ⟨rfl, h2⟩ := hc
      exact ⟨n, f, hy, h2, q⟩
    · cases q
  · cases q
theorem gx_sR_of {t : Nat} {h h1 : gx_H} {a v : Nat} {i : Int32} (q : gx_sR t h a i v = some h1) : ∃ (n : Nat) (f : Nat → Option Nat), h.2 a = .inl (t, n, .inr (.inr (.inr (.inr f)))) ∧ vp_in i n ∧ h1 = (h.1, va_up h.2 a (.inl (t, n, .inr (.inr (.inr (.inr (va_up f i.toNatClampNeg (some v)))))))) := by
  unfold gx_sR at q
  split at q
  · rename_i t' n f hy
    split at q
    · rename_i hc
      obtain ⟨rfl, h2⟩ := hc
      cases q
      exact ⟨n, f, hy, h2, rfl⟩
    · cases q
  · cases q
theorem gx_nj {h : gx_H} {a : Nat} {x : Nat × vp_A} (h1 : h.2 a = .inl x) : h.2 a ≠ gx_junk := fun q => by
  rw [h1] at q
  cases q
theorem gx_iald {a : Nat} {i : Int32} {f : Int32 → Option (ρ × gx_H)} (hd : decode cc pc = .ok (.iaload, 1)) (kk : ∀ x, gx_G E own cc nL rt ini d bc bs (pc + 1) L (.int x :: st) h em (f x)) : gx_G E own cc nL rt ini d bc bs pc L (.int i :: .ref a :: st) h em ((gx_aI 0 h a i).bind f) := by
  refine gx_bind fun x hx => ?_
  obtain ⟨n, g, g1, g2, rfl⟩ := gx_aI_of hx
  intro r h' ho p e R s m args below meth c Q F hR H locs cells slots ls hP hS hc hs hL
  exact va_iald F.1 F.2.1 F.2.2.2.2.2.1.1 (hP.one (hP.lt (gx_nj g1)) g1) 0 0 rfl rfl g2 hd (kk _ r h' ho p e R s m args below meth c Q F hR H locs cells slots ls hP hS hc hs hL)
theorem gx_bald {a : Nat} {i : Int32} {f : Int32 → Option (ρ × gx_H)} (hd : decode cc pc = .ok (.baload, 1)) (kk : ∀ x, gx_G E own cc nL rt ini d bc bs (pc + 1) L (.int x :: st) h em (f x)) : gx_G E own cc nL rt ini d bc bs pc L (.int i :: .ref a :: st) h em ((gx_aI 1 h a i).bind f) := by
  refine gx_bind fun x hx => ?_
  obtain ⟨n, g, g1, g2, rfl⟩ := gx_aI_of hx
  intro r h' ho p e R s m args below meth c Q F hR H locs cells slots ls hP hS hc hs hL
  exact va_bald F.1 F.2.1 F.2.2.2.2.2.1.1 (hP.one (hP.lt (gx_nj g1)) g1) 0 1 rfl rfl g2 hd (kk _ r h' ho p e R s m args below meth c Q F hR H locs cells slots ls hP hS hc hs hL)
theorem gx_zald {a : Nat} {i : Int32} {f : Int32 → Option (ρ × gx_H)} (hd : decode cc pc = .ok (.baload, 1)) (kk : ∀ x, gx_G E own cc nL rt ini d bc bs (pc + 1) L (.int x :: st) h em (f x)) : gx_G E own cc nL rt ini d bc bs pc L (.int i :: .ref a :: st) h em ((gx_aI 2 h a i).bind f) := by
  refine gx_bind fun x hx => ?_
  obtain ⟨n, g, g1, g2, rfl⟩ := gx_aI_of hx
  intro r h' ho p e R s m args below meth c Q F hR H locs cells slots ls hP hS hc hs hL
  exact va_zald F.1 F.2.1 F.2.2.2.2.2.1.1 (hP.one (hP.lt (gx_nj g1)) g1) 0 2 rfl rfl g2 hd (kk _ r h' ho p e R s m args below meth c Q F hR H locs cells slots ls hP hS hc hs hL)
theorem gx_iast {a : Nat} {i x : Int32} {f : gx_H → Option (ρ × gx_H)} (hd : decode cc pc = .ok (.iastore, 1)) (kk : ∀ h1, gx_G E own cc nL rt ini d bc bs (pc + 1) L st h1 em (f h1)) : gx_G E own cc nL rt ini d bc bs pc L (.int x :: .int i :: .ref a :: st) h em ((gx_sI 0 h a i x).bind f) := by
  refine gx_bind fun h1 hx => ?_
  obtain ⟨n, g, g1, g2, rfl⟩ := gx_sI_of hx
  intro r h' ho p e R s m args below meth c Q F hR H locs cells slots ls hP hS hc hs hL
  have hlt := hP.lt (gx_nj g1)
  have hcell : H[gx_b E + a]? = some (vp_cell (gx_cT E 0) (n, .inl g)) := by
    have := hP.2.1 a hlt
    rw [g1] at this
    exact this
  refine W.iast F.1 F.2.1 hcell ((F.2.2.2.2.2.1.1.2 0 _ rfl).1 n (fun j => .int (g j))) (fun q => by cases q) (by show ¬ (i < 0 ∨ (arrV _ _ _).slots.size ≤ _); rw [arrV_size]; exact g2) rfl rfl hd fun H1 e1 z oq => ?_
  refine kk _ r h' ho p e R s m args below meth c Q F hR H1 _ cells slots ls (hP.set hlt z oq ?_) (hS.put z oq (Nat.le_add_right _ _)) hc hs hL
  show H1[gx_b E + a]? = some (vp_cell (gx_cT E 0) (n, .inl (upd g i.toNatClampNeg x)))
  rw [e1]
  rw [vp_cell_i, vp_cell_i, arrV_store]
  congr 2
  funext q
  by_cases hq : q = i.toNatClampNeg
  · subst hq
    simp [updV, upd]
  · simp [updV, upd, hq]
theorem gx_bast {a : Nat} {i x : Int32} {f : gx_H → Option (ρ × gx_H)} (hd : decode cc pc = .ok (.bastore, 1)) (kk : ∀ h1, gx_G E own cc nL rt ini d bc bs (pc + 1) L st h1 em (f h1)) : gx_G E own cc nL rt ini d bc bs pc L (.int x :: .int i :: .ref a :: st) h em ((gx_sI 1 h a i (vp_nar .byte x)).bind f) := by
  refine gx_bind fun h1 hx => ?_
  obtain ⟨n, g, g1, g2, rfl⟩ := gx_sI_of hx
  intro r h' ho p e R s m args below meth c Q F hR H locs cells slots ls hP hS hc hs hL
  have hlt := hP.lt (gx_nj g1)
  have hcell : H[gx_b E + a]? = some (vp_cell (gx_cT E 1) (n, .inl g)) := by
    have := hP.2.1 a hlt
    rw [g1] at this
    exact this
  refine W.bast F.1 F.2.1 hcell ((F.2.2.2.2.2.1.1.2 1 _ rfl).1 n (fun j => .int (g j))) (fun q => by cases q) (by show ¬ (i < 0 ∨ (arrV _ _ _).slots.size ≤ _); rw [arrV_size]; exact g2) rfl rfl hd fun H1 e1 z oq => ?_
  refine kk _ r h' ho p e R s m args below meth c Q F hR H1 _ cells slots ls (hP.set hlt z oq ?_) (hS.put z oq (Nat.le_add_right _ _)) hc hs hL
  show H1[gx_b E + a]? = some (vp_cell (gx_cT E 1) (n, .inl (upd g i.toNatClampNeg (vp_nar .byte x))))
  rw [e1]
  rw [vp_cell_i, vp_cell_i, arrV_store]
  congr 2
  funext q
  by_cases hq : q = i.toNatClampNeg
  · subst hq
    simp [updV, upd, vp_nar]
    try rfl
  · simp [updV, upd, hq]
theorem gx_zast {a : Nat} {i x : Int32} {f : gx_H → Option (ρ × gx_H)} (hd : decode cc pc = .ok (.bastore, 1)) (kk : ∀ h1, gx_G E own cc nL rt ini d bc bs (pc + 1) L st h1 em (f h1)) : gx_G E own cc nL rt ini d bc bs pc L (.int x :: .int i :: .ref a :: st) h em ((gx_sI 2 h a i (vp_nar .boolean x)).bind f) := by
  refine gx_bind fun h1 hx => ?_
  obtain ⟨n, g, g1, g2, rfl⟩ := gx_sI_of hx
  intro r h' ho p e R s m args below meth c Q F hR H locs cells slots ls hP hS hc hs hL
  have hlt := hP.lt (gx_nj g1)
  have hcell : H[gx_b E + a]? = some (vp_cell (gx_cT E 2) (n, .inl g)) := by
    have := hP.2.1 a hlt
    rw [g1] at this
    exact this
  refine W.zast F.1 F.2.1 hcell ((F.2.2.2.2.2.1.1.2 2 _ rfl).1 n (fun j => .int (g j))) (fun q => by cases q) (by show ¬ (i < 0 ∨ (arrV _ _ _).slots.size ≤ _); rw [arrV_size]; exact g2) rfl rfl hd fun H1 e1 z oq => ?_
  refine kk _ r h' ho p e R s m args below meth c Q F hR H1 _ cells slots ls (hP.set hlt z oq ?_) (hS.put z oq (Nat.le_add_right _ _)) hc hs hL
  show H1[gx_b E + a]? = some (vp_cell (gx_cT E 2) (n, .inl (upd g i.toNatClampNeg (vp_nar .boolean x))))
  rw [e1]
  rw [vp_cell_i, vp_cell_i, arrV_store]
  congr 2
  funext q
  by_cases hq : q = i.toNatClampNeg
  · subst hq
    simp [updV, upd, vp_nar]
    try rfl
  · simp [updV, upd, hq]
theorem gx_aald3 {a : Nat} {i : Int32} {f : Nat → Option (ρ × gx_H)} (hd : decode cc pc = .ok (.aaload, 1)) (kk : ∀ x, gx_G E own cc nL rt ini d bc bs (pc + 1) L (.ref x :: st) h em (f x)) : gx_G E own cc nL rt ini d bc bs pc L (.int i :: .ref a :: st) h em ((gx_aR 3 h a i).bind f) := by
  refine gx_bind fun x hx => ?_
  obtain ⟨n, g, g1, g2, g3⟩ := gx_aR_of hx
  intro r h' ho p e R s m args below meth c Q F hR H locs cells slots ls hP hS hc hs hL
  refine va_aldq (C := RX8) F.1 F.2.1 F.2.2.2.2.2.1.1 (hP.one (hP.lt (gx_nj g1)) g1) 0 3 rfl rfl g2 hd ?_
  rw [g3]
  exact kk x r h' ho p e R s m args below meth c Q F hR H locs cells slots ls hP hS hc hs hL
theorem gx_aast3 {a v : Nat} {i : Int32} {f : gx_H → Option (ρ × gx_H)} (hd : decode cc pc = .ok (.aastore, 1)) (kk : ∀ h1, gx_G E own cc nL rt ini d bc bs (pc + 1) L st h1 em (f h1)) : gx_G E own cc nL rt ini d bc bs pc L (.ref v :: .int i :: .ref a :: st) h em ((gx_isO h v 6).bind fun _ => (gx_sR 3 h a i v).bind f) := by
  intro r h' ho
  obtain ⟨-, fs, hv⟩ := gx_isO_of ho
  obtain ⟨u, -, ho⟩ := Option.bind_eq_some_iff.mp ho
  obtain ⟨h1, hx, ho⟩ := Option.bind_eq_some_iff.mp ho
  obtain ⟨n, g, g1, g2, rfl⟩ := gx_sR_of hx
  intro p e R s m args below meth c Q F hR H locs cells slots ls hP hS hc hs hL
  have hlt := hP.lt (gx_nj g1)
  have hvlt : v < h.1 := hP.lt (fun q => by rw [hv] at q; cases q)
  have hlt2 : i.toNatClampNeg < n := Nat.not_le.mp fun q => g2 (Or.inr q)
  have h0 : ¬ i < 0 := fun q => g2 (Or.inl q)
  have hcell : H[gx_b E + a]? = some (vp_cell (gx_cT E 3) (n, gx_ar (gx_b E) (.inr (.inr (.inr (.inr g)))))) := by
    have := hP.2.1 a hlt
    rw [g1] at this
    exact this
  have hat := hP.2.1 v hvlt
  rw [hv] at hat
  obtain ⟨r', hr', cellV, c1, c2, c3, -⟩ := hat
  have hK := F.2.2.2.2.2.1.1
  have hcls := (hK.1 6 _ rfl).2
  obtain ⟨kA, comp, k1, k2, k3, -⟩ := (hK.2 3 _ rfl).2
  have hcomp : comp = (gx_D E).1 6 := Option.some.inj (k3.symm.trans hcls.1)
  subst hcomp
  obtain ⟨kC, hkC, -⟩ := hcls.2
  refine W.aast F.1 F.2.1 hcell (fun q h => by cases h) (fun h => by cases h) k1 k2 rfl hkC ⟨h0, by show _ < (arrV _ _ _).slots.size; rw [arrV_size]; exact hlt2⟩ c1 (fun q h => by rw [c3] at h; cases h) (by rw [c2]; exact hkC) (by rw [c2]; exact va_assign hcls) rfl rfl hd fun H1 e1 z oq => ?_
  refine kk _ r h' ho p e R s m args below meth c Q F hR H1 _ cells slots ls (hP.set hlt z oq ?_) (hS.put z oq (Nat.le_add_right _ _)) hc hs hL
  show H1[gx_b E + a]? = some (vp_cell (gx_cT E 3) (n, .inr (.inr (.inr (.inr (fun j => (va_up g i.toNatClampNeg (some v) j).map (fun k => gx_b E + k)))))))
  rw [e1]
  show some ((vp_cell (gx_cT E 3) (n, .inr (.inr (.inr (.inr (fun j => (g j).map (fun k => gx_b E + k))))))).setSlot _ _) = _
  rw [vp_cell_q, vp_cell_q, arrV_store]
  congr 2
  funext q
  by_cases hq : q = i.toNatClampNeg
  · subst hq
    simp [updV, va_up, va_rf]
  · simp [updV, va_up, hq]
theorem gx_aald4 {a : Nat} {i : Int32} {f : Nat → Option (ρ × gx_H)} (hd : decode cc pc = .ok (.aaload, 1)) (kk : ∀ x, gx_G E own cc nL rt ini d bc bs (pc + 1) L (.ref x :: st) h em (f x)) : gx_G E own cc nL rt ini d bc bs pc L (.int i :: .ref a :: st) h em ((gx_aR 4 h a i).bind f) := by
  refine gx_bind fun x hx => ?_
  obtain ⟨n, g, g1, g2, g3⟩ := gx_aR_of hx
  intro r h' ho p e R s m args below meth c Q F hR H locs cells slots ls hP hS hc hs hL
  refine va_aldq (C := RX1) F.1 F.2.1 F.2.2.2.2.2.1.1 (hP.one (hP.lt (gx_nj g1)) g1) 0 4 rfl rfl g2 hd ?_
  rw [g3]
  exact kk x r h' ho p e R s m args below meth c Q F hR H locs cells slots ls hP hS hc hs hL
theorem gx_aast4 {a v : Nat} {i : Int32} {f : gx_H → Option (ρ × gx_H)} (hd : decode cc pc = .ok (.aastore, 1)) (kk : ∀ h1, gx_G E own cc nL rt ini d bc bs (pc + 1) L st h1 em (f h1)) : gx_G E own cc nL rt ini d bc bs pc L (.ref v :: .int i :: .ref a :: st) h em ((gx_isO h v 1).bind fun _ => (gx_sR 4 h a i v).bind f) := by
  intro r h' ho
  obtain ⟨-, fs, hv⟩ := gx_isO_of ho
  obtain ⟨u, -, ho⟩ := Option.bind_eq_some_iff.mp ho
  obtain ⟨h1, hx, ho⟩ := Option.bind_eq_some_iff.mp ho
  obtain ⟨n, g, g1, g2, rfl⟩ := gx_sR_of hx
  intro p e R s m args below meth c Q F hR H locs cells slots ls hP hS hc hs hL
  have hlt := hP.lt (gx_nj g1)
  have hvlt : v < h.1 := hP.lt (fun q => by rw [hv] at q; cases q)
  have hlt2 : i.toNatClampNeg < n := Nat.not_le.mp fun q => g2 (Or.inr q)
  have h0 : ¬ i < 0 := fun q => g2 (Or.inl q)
  have hcell : H[gx_b E + a]? = some (vp_cell (gx_cT E 4) (n, gx_ar (gx_b E) (.inr (.inr (.inr (.inr g)))))) := by
    have := hP.2.1 a hlt
    rw [g1] at this
    exact this
  have hat := hP.2.1 v hvlt
  rw [hv] at hat
  obtain ⟨r', hr', cellV, c1, c2, c3, -⟩ := hat
  have hK := F.2.2.2.2.2.1.1
  have hcls := (hK.1 1 _ rfl).2
  obtain ⟨kA, comp, k1, k2, k3, -⟩ := (hK.2 4 _ rfl).2
  have hcomp : comp = (gx_D E).1 1 := Option.some.inj (k3.symm.trans hcls.1)
  subst hcomp
  obtain ⟨kC, hkC, -⟩ := hcls.2
  refine W.aast F.1 F.2.1 hcell (fun q h => by cases h) (fun h => by cases h) k1 k2 rfl hkC ⟨h0, by show _ < (arrV _ _ _).slots.size; rw [arrV_size]; exact hlt2⟩ c1 (fun q h => by rw [c3] at h; cases h) (by rw [c2]; exact hkC) (by rw [c2]; exact va_assign hcls) rfl rfl hd fun H1 e1 z oq => ?_
  refine kk _ r h' ho p e R s m args below meth c Q F hR H1 _ cells slots ls (hP.set hlt z oq ?_) (hS.put z oq (Nat.le_add_right _ _)) hc hs hL
  show H1[gx_b E + a]? = some (vp_cell (gx_cT E 4) (n, .inr (.inr (.inr (.inr (fun j => (va_up g i.toNatClampNeg (some v) j).map (fun k => gx_b E + k)))))))
  rw [e1]
  show some ((vp_cell (gx_cT E 4) (n, .inr (.inr (.inr (.inr (fun j => (g j).map (fun k => gx_b E + k))))))).setSlot _ _) = _
  rw [vp_cell_q, vp_cell_q, arrV_store]
  congr 2
  funext q
  by_cases hq : q = i.toNatClampNeg
  · subst hq
    simp [updV, va_up, va_rf]
  · simp [updV, va_up, hq]
theorem gx_alen {a : Nat} {f : Int32 → Option (ρ × gx_H)} (hd : decode cc pc = .ok (.arraylength, 1)) (kk : ∀ x, gx_G E own cc nL rt ini d bc bs (pc + 1) L (.int x :: st) h em (f x)) : gx_G E own cc nL rt ini d bc bs pc L (.ref a :: st) h em ((gx_al h a).bind f) := by
  refine gx_bind fun x hx => ?_
  unfold gx_al at hx
  split at hx
  · rename_i y g1
    split at hx
    · rename_i hlt5
      cases hx
      intro r h' ho p e R s m args below meth c Q F hR H locs cells slots ls hP hS hc hs hL
      obtain ⟨ty, hty⟩ : ∃ ty, (gx_tys E)[y.1]? = some (gx_cT E y.1, ty) := by
        rcases (show y.1 = 0 ∨ y.1 = 1 ∨ y.1 = 2 ∨ y.1 = 3 ∨ y.1 = 4 by omega) with e | e | e | e | e <;> rw [e] <;> exact ⟨_, rfl⟩
      exact va_alen F.1 F.2.1 F.2.2.2.2.2.1.1 (hP.one (hP.lt (gx_nj g1)) g1) 0 y.1 rfl hty rfl hd (kk _ r h' ho p e R s m args below meth c Q F hR H locs cells slots ls hP hS hc hs hL)
    · cases hx
  · cases hx
theorem gx_newO {idx ci N : Nat} {fs : List Value} (hC : gx_Cls own idx ci N fs) (hv : fs.map (gx_v E) = fs) (hd : decode cc pc = .ok (.new idx, 3)) (kk : gx_G E own cc nL rt ini d bc bs (pc + 3) L (.ref h.1 :: st) (gx_new (.inr (ci, fs)) h) em o) : gx_G E own cc nL rt ini d (bc + 1) (bs + N) pc L st h em o := by
  intro r h' ho p e R s m args below meth c Q F hR H locs cells slots ls hP hS hc hs hL
  obtain ⟨C, T, ty, c1, c2, c3, c4, c5, c6, c7⟩ := hC
  have hts := F.2.2.2.2.1
  have hKn := F.2.2.2.2.2.1.1.1 ci _ c1
  refine W.newcK F.1 F.2.1 F.2.2.2.1 (hts _ c4) (hts _ c5) (hts _ c6) rfl hd (by omega) (by omega) hKn.2.1 hP.1 fun H1 kC hkC e1 z1 o1 => ?_
  have hz : H1.size = H.size + 1 := by rw [z1, hP.1]
  have ho1 : ∀ q, q < H.size → H1[q]? = H[q]? := fun q hq => o1 q (by rw [← hP.1]; exact hq)
  refine kk r h' ho p e R s m args below meth c Q F hR H1 locs (cells + 1) (slots + N) ls (hP.push hz ho1 ⟨_, c1, ?_⟩) ⟨Nat.le_trans hS.1 (by omega), fun x h1 h2 => (ho1 x (Nat.lt_of_lt_of_le h1 hS.1)).trans (hS.2.1 x h1 h2), hS.2.2⟩ (by omega) (by omega) hL
  show t_OB H.size _ _ _ H1 (vp_V (fs.map (gx_v E)))
  rw [hv]
  rw [← hP.1] at e1
  exact (u_born ty hts c2 hKn hkC e1 c3).to c7
theorem gx_newA0 {n : Int32} (N : Nat) (hw : Cond.arrayClass .int ∈ gx_tbl) (hd : decode cc pc = .ok (.newarray .int, 2)) (hn : ¬ n < 0) (hN : n.toNatClampNeg = N) (hb : N ≤ 10000) (kk : gx_G E own cc nL rt ini d bc bs (pc + 2) L (.ref h.1 :: st) (gx_new (.inl (0, N, .inl (fun _ => 0))) h) em o) : gx_G E own cc nL rt ini d (bc + 1) (bs + N) pc L (.int n :: st) h em o := by
  intro r h' ho p e R s m args below meth c Q F hR H locs cells slots ls hP hS hc hs hL
  have hb' : N * componentBytes .int ≤ 536870912 := by
    have : componentBytes .int ≤ 4 := by decide
    calc N * componentBytes .int ≤ 10000 * 4 := Nat.mul_le_mul hb this
      _ ≤ 536870912 := by decide
  refine va_newaK (atype := .int) F.1 F.2.1 (F.2.2.2.2.1 _ hw) rfl hd rfl hn hN hb' (by omega) (by omega) hP.1 fun H1 cA e1 z1 o1 hAr hNm => ?_
  have hz : H1.size = H.size + 1 := by rw [z1, hP.1]
  have ho1 : ∀ q, q < H.size → H1[q]? = H[q]? := fun q hq => o1 q (by rw [← hP.1]; exact hq)
  have hcA : cA = gx_cT E 0 := Option.some.inj (hNm.symm.trans (F.2.2.2.2.2.1.1.2 0 _ rfl).2)
  subst hcA
  refine kk r h' ho p e R s m args below meth c Q F hR H1 locs (cells + 1) (slots + N) ls (hP.push hz ho1 ?_) ⟨Nat.le_trans hS.1 (by omega), fun x h1 h2 => (ho1 x (Nat.lt_of_lt_of_le h1 hS.1)).trans (hS.2.1 x h1 h2), hS.2.2⟩ (by omega) (by omega) hL
  show H1[H.size]? = some (vp_cell (gx_cT E 0) (N, .inl (fun _ => 0)))
  rw [hP.1, e1]
  rfl
theorem gx_newA1 {n : Int32} (N : Nat) (hw : Cond.arrayClass .byte ∈ gx_tbl) (hd : decode cc pc = .ok (.newarray .byte, 2)) (hn : ¬ n < 0) (hN : n.toNatClampNeg = N) (hb : N ≤ 10000) (kk : gx_G E own cc nL rt ini d bc bs (pc + 2) L (.ref h.1 :: st) (gx_new (.inl (1, N, .inl (fun _ => 0))) h) em o) : gx_G E own cc nL rt ini d (bc + 1) (bs + N) pc L (.int n :: st) h em o := by
  intro r h' ho p e R s m args below meth c Q F hR H locs cells slots ls hP hS hc hs hL
  have hb' : N * componentBytes .byte ≤ 536870912 := by
    have : componentBytes .byte ≤ 4 := by decide
    calc N * componentBytes .byte ≤ 10000 * 4 := Nat.mul_le_mul hb this
      _ ≤ 536870912 := by decide
  refine va_newaK (atype := .byte) F.1 F.2.1 (F.2.2.2.2.1 _ hw) rfl hd rfl hn hN hb' (by omega) (by omega) hP.1 fun H1 cA e1 z1 o1 hAr hNm => ?_
  have hz : H1.size = H.size + 1 := by rw [z1, hP.1]
  have ho1 : ∀ q, q < H.size → H1[q]? = H[q]? := fun q hq => o1 q (by rw [← hP.1]; exact hq)
  have hcA : cA = gx_cT E 1 := Option.some.inj (hNm.symm.trans (F.2.2.2.2.2.1.1.2 1 _ rfl).2)
  subst hcA
  refine kk r h' ho p e R s m args below meth c Q F hR H1 locs (cells + 1) (slots + N) ls (hP.push hz ho1 ?_) ⟨Nat.le_trans hS.1 (by omega), fun x h1 h2 => (ho1 x (Nat.lt_of_lt_of_le h1 hS.1)).trans (hS.2.1 x h1 h2), hS.2.2⟩ (by omega) (by omega) hL
  show H1[H.size]? = some (vp_cell (gx_cT E 1) (N, .inl (fun _ => 0)))
  rw [hP.1, e1]
  rfl
theorem gx_newA2 {n : Int32} (N : Nat) (hw : Cond.arrayClass .boolean ∈ gx_tbl) (hd : decode cc pc = .ok (.newarray .boolean, 2)) (hn : ¬ n < 0) (hN : n.toNatClampNeg = N) (hb : N ≤ 10000) (kk : gx_G E own cc nL rt ini d bc bs (pc + 2) L (.ref h.1 :: st) (gx_new (.inl (2, N, .inl (fun _ => 0))) h) em o) : gx_G E own cc nL rt ini d (bc + 1) (bs + N) pc L (.int n :: st) h em o := by
  intro r h' ho p e R s m args below meth c Q F hR H locs cells slots ls hP hS hc hs hL
  have hb' : N * componentBytes .boolean ≤ 536870912 := by
    have : componentBytes .boolean ≤ 4 := by decide
    calc N * componentBytes .boolean ≤ 10000 * 4 := Nat.mul_le_mul hb this
      _ ≤ 536870912 := by decide
  refine va_newaK (atype := .boolean) F.1 F.2.1 (F.2.2.2.2.1 _ hw) rfl hd rfl hn hN hb' (by omega) (by omega) hP.1 fun H1 cA e1 z1 o1 hAr hNm => ?_
  have hz : H1.size = H.size + 1 := by rw [z1, hP.1]
  have ho1 : ∀ q, q < H.size → H1[q]? = H[q]? := fun q hq => o1 q (by rw [← hP.1]; exact hq)
  have hcA : cA = gx_cT E 2 := Option.some.inj (hNm.symm.trans (F.2.2.2.2.2.1.1.2 2 _ rfl).2)
  subst hcA
  refine kk r h' ho p e R s m args below meth c Q F hR H1 locs (cells + 1) (slots + N) ls (hP.push hz ho1 ?_) ⟨Nat.le_trans hS.1 (by omega), fun x h1 h2 => (ho1 x (Nat.lt_of_lt_of_le h1 hS.1)).trans (hS.2.1 x h1 h2), hS.2.2⟩ (by omega) (by omega) hL
  show H1[H.size]? = some (vp_cell (gx_cT E 2) (N, .inl (fun _ => 0)))
  rw [hP.1, e1]
  rfl
theorem gx_newR3 {idx : Nat} {n : Int32} {f : gx_H → Option (ρ × gx_H)} (B : Nat) (hw : Cond.classLink own idx RX8 ∈ gx_tbl) (hd : decode cc pc = .ok (.anewarray idx, 3)) (hB : B ≤ 1000) (kk : gx_G E own cc nL rt ini d bc bs (pc + 3) L (.ref h.1 :: st) (gx_new (.inl (3, n.toNatClampNeg, .inr (.inr (.inr (.inr (fun _ => none)))))) h) em o) : gx_G E own cc nL rt ini d (bc + 1) (bs + B) pc L (.int n :: st) h em (if n < 0 ∨ B < n.toNatClampNeg then none else o) := by
  intro r h' ho
  split at ho
  · cases ho
  rename_i hnb
  have hn : ¬ n < 0 := fun q => hnb (Or.inl q)
  have hnB : n.toNatClampNeg ≤ B := Nat.not_lt.mp fun q => hnb (Or.inr q)
  intro p e R s m args below meth c Q F hR H locs cells slots ls hP hS hc hs hL
  refine W.anew F.1 F.2.1 F.2.2.2.1 (F.2.2.2.2.1 _ hw) (va_AO.use F.2.2.2.2.2.1.2.2.1) rfl hd rfl hn (by omega) (by omega) (by omega) fun cA kA comp f1 f2 f3 f4 => ?_
  generalize hH1 : H.push ({ cls := cA, slots := Array.replicate n.toNatClampNeg .null, vm := .none } : Cell) = H1
  have hz : H1.size = H.size + 1 := by rw [← hH1, Array.size_push]
  have e1 : H1[H.size]? = some (arrV cA n.toNatClampNeg (fun _ => .null)) := by rw [← hH1, Array.getElem?_push_size, ← arrV_new]
  have ho1 : ∀ q, q < H.size → H1[q]? = H[q]? := fun q hq => by rw [← hH1, Array.getElem?_push, if_neg (Nat.ne_of_lt hq)]
  obtain ⟨kA', comp', k1, k2, k3, k4⟩ := (F.2.2.2.2.2.1.1.2 3 _ rfl).2
  have hcA : cA = gx_cT E 3 := Option.some.inj (f1.symm.trans k4)
  subst hcA
  refine W.widen (k := cells + 1) (n := slots + B) (Nat.le_refl _) (by omega) ?_
  rw [show (F0 m pc ls (Value.int n :: st.map (gx_v E))).pc = pc from rfl, hP.1]
  refine kk r h' ho p e R s m args below meth c Q F hR H1 locs (cells + 1) (slots + B) ls (hP.push hz ho1 ?_) ⟨Nat.le_trans hS.1 (by omega), fun x h1 h2 => (ho1 x (Nat.lt_of_lt_of_le h1 hS.1)).trans (hS.2.1 x h1 h2), hS.2.2⟩ (by omega) (by omega) hL
  show H1[H.size]? = some (vp_cell (gx_cT E 3) (n.toNatClampNeg, .inr (.inr (.inr (.inr (fun _ => none))))))
  rw [e1]
  rfl
theorem gx_newR4 {idx : Nat} {n : Int32} {f : gx_H → Option (ρ × gx_H)} (B : Nat) (hw : Cond.classLink own idx RX1 ∈ gx_tbl) (hd : decode cc pc = .ok (.anewarray idx, 3)) (hB : B ≤ 1000) (kk : gx_G E own cc nL rt ini d bc bs (pc + 3) L (.ref h.1 :: st) (gx_new (.inl (4, n.toNatClampNeg, .inr (.inr (.inr (.inr (fun _ => none)))))) h) em o) : gx_G E own cc nL rt ini d (bc + 1) (bs + B) pc L (.int n :: st) h em (if n < 0 ∨ B < n.toNatClampNeg then none else o) := by
  intro r h' ho
  split at ho
  · cases ho
  rename_i hnb
  have hn : ¬ n < 0 := fun q => hnb (Or.inl q)
  have hnB : n.toNatClampNeg ≤ B := Nat.not_lt.mp fun q => hnb (Or.inr q)
  intro p e R s m args below meth c Q F hR H locs cells slots ls hP hS hc hs hL
  refine W.anew F.1 F.2.1 F.2.2.2.1 (F.2.2.2.2.1 _ hw) (va_AO.use F.2.2.2.2.2.1.2.2.2.1) rfl hd rfl hn (by omega) (by omega) (by omega) fun cA kA comp f1 f2 f3 f4 => ?_
  generalize hH1 : H.push ({ cls := cA, slots := Array.replicate n.toNatClampNeg .null, vm := .none } : Cell) = H1
  have hz : H1.size = H.size + 1 := by rw [← hH1, Array.size_push]
  have e1 : H1[H.size]? = some (arrV cA n.toNatClampNeg (fun _ => .null)) := by rw [← hH1, Array.getElem?_push_size, ← arrV_new]
  have ho1 : ∀ q, q < H.size → H1[q]? = H[q]? := fun q hq => by rw [← hH1, Array.getElem?_push, if_neg (Nat.ne_of_lt hq)]
  obtain ⟨kA', comp', k1, k2, k3, k4⟩ := (F.2.2.2.2.2.1.1.2 4 _ rfl).2
  have hcA : cA = gx_cT E 4 := Option.some.inj (f1.symm.trans k4)
  subst hcA
  refine W.widen (k := cells + 1) (n := slots + B) (Nat.le_refl _) (by omega) ?_
  rw [show (F0 m pc ls (Value.int n :: st.map (gx_v E))).pc = pc from rfl, hP.1]
  refine kk r h' ho p e R s m args below meth c Q F hR H1 locs (cells + 1) (slots + B) ls (hP.push hz ho1 ?_) ⟨Nat.le_trans hS.1 (by omega), fun x h1 h2 => (ho1 x (Nat.lt_of_lt_of_le h1 hS.1)).trans (hS.2.1 x h1 h2), hS.2.2⟩ (by omega) (by omega) hL
  show H1[H.size]? = some (vp_cell (gx_cT E 4) (n.toNatClampNeg, .inr (.inr (.inr (.inr (fun _ => none))))))
  rw [e1]
  rfl
end GXA
end
section
/-! calls -/
def gx_N : Nat := 20000
def gx_let {α β : Type} (a : α) (f : α → β) : β := f a
def gx_bd {α β : Type} (a : Option (α × gx_H)) (f : α → gx_H → Option β) : Option β := a.bind (fun q => f q.1 q.2)
def gx_M (E : gx_Env) (y : MethodName) (cy : ByteArray) (ny : Nat) (rt : Option FieldType) (d mc ms : Nat) (As : List Value) (h : gx_H) (v : Option Value) (h' : gx_H) : Prop :=
  Met (gx_l E) y (Cond.code y cy ny rt :: gx_tbl) ({ frames := d, cells := mc, slots := ms, locals := 64 * d } : Room) (va_Pc (As.map (gx_v E)) (fun U => gx_P E h U.heap ∧ gx_ok E U U.heap ∧ gx_b E ≤ U.heap.size)) (fun _ s0 oc t => oc = .returned (v.map (gx_v E)) ∧ gx_P E h' t.heap ∧ va_F (gx_A E) s0 t) mc ms (gx_A E)
def gx_Mt (y : MethodName) (cy : ByteArray) (ny : Nat) (rt : Option FieldType) (n : Nat) : Prop := Cond.code y cy ny rt ∈ gx_tbl ∧ Cond.initialized y.cls ∈ gx_tbl ∧ (y.cls ≠ "java/lang/invoke/MethodHandle" ∧ y.cls ≠ "java/lang/invoke/VarHandle" ∧ (parseMethodDescriptor y.desc).map (fun d => d.parameters.length) = some n) ∧ ny ≤ 45
def gx_MS (own : String) (idx : Nat) (y : MethodName) (cy : ByteArray) (ny : Nat) (rt : Option FieldType) (n : Nat) : Prop := gx_Mt y cy ny rt n ∧ Cond.methodLink own idx y ∈ gx_tbl ∧ Cond.static y ∈ gx_tbl
def gx_MV (own : String) (idx : Nat) (y : MethodName) (cy : ByteArray) (ny : Nat) (rt : Option FieldType) (n : Nat) : Prop := gx_Mt y cy ny rt n ∧ Cond.methodLink own idx y ∈ gx_tbl ∧ Cond.instanceMethod y ∈ gx_tbl ∧ Cond.selects y.cls y y ∈ gx_tbl
def gx_MSN (own : String) (idx : Nat) (y : MethodName) (cy : ByteArray) (ny : Nat) (rt : Option FieldType) (n : Nat) : Prop := gx_Mt y cy ny rt n ∧ (own, idx, y) ∈ gx_nest ∧ Cond.static y ∈ gx_tbl
def gx_MI (own : String) (idx : Nat) (y : MethodName) (cy : ByteArray) (ny : Nat) (n : Nat) : Prop := gx_Mt y cy ny none n ∧ Cond.methodLink own idx y ∈ gx_tbl ∧ Cond.instanceMethod y ∈ gx_tbl ∧ y.name = "<init>"
def gx_MIN (own : String) (idx : Nat) (y : MethodName) (cy : ByteArray) (ny : Nat) (n : Nat) : Prop := gx_Mt y cy ny none n ∧ (own, idx, y) ∈ gx_nest ∧ Cond.instanceMethod y ∈ gx_tbl ∧ y.name = "<init>"
theorem gx_blind {E : gx_Env} {h : gx_H} {As : List Value} : FrameBlind (va_Pc As (fun U => gx_P E h U.heap ∧ gx_ok E U U.heap ∧ gx_b E ≤ U.heap.size)) := fun a U g mk q => ⟨q.1, q.2.1, gx_ok.same (s := U) rfl q.2.2.1, q.2.2.2⟩
section GXC
variable {E : gx_Env} {own : String} {cc : ByteArray} {nL : Nat} {rt : Option FieldType} {ini : Bool} {d bc bs pc : Nat} {L : List (Option Value)} {st : List Value} {h : gx_H} {ρ : Type} {em : ρ → Option Value} {o o1 o2 : Option (ρ × gx_H)}
/-- behind a call -/
theorem gx_cont {ρ' : Type} {y : MethodName} {As : List Value} {mc ms : Nat} {v : Option Value} {h1 : gx_H} {p : Program} {e : Env} {R : Room} {s : State} {m : MethodId} {args : Array Value} {below : List Frame} {meth : Method} {c : Code} {Q : State → Prop} {H : Heap} {locs : List Loc} {cells slots : Nat} {ls : Array Slot} {st0 : List Value}
    (hr : va_Run p (gx_l E) e R s m args below meth c H locs cells slots mc ms (F0 m pc ls st0) (st.map (gx_v E)) (fun (s0 : State) (oc : Outcome) (t : State) => oc = .returned (v.map (gx_v E)) ∧ gx_P E h1 t.heap ∧ va_F (gx_A E) s0 t) (gx_A E)) (hS : va_S (gx_A E) s.heap H locs)
    (kk : ∀ (H1 : Heap) (locs1 : List Loc), gx_P E h1 H1 → va_S (gx_A E) s.heap H1 locs1 → W p (gx_l E) e R s m args below meth c H1 locs1 (cells + mc) (slots + ms) Q (F0 m (pc + 3) ls ((v.toList ++ st).map (gx_v E)))) : W p (gx_l E) e R s m args below meth c H locs cells slots Q (F0 m pc ls st0) := by
  intro T hT X
  obtain ⟨v', st₀, t, T', L', h0, X', hL', e1, e2, ⟨hv, hP', hz, hk⟩, stp⟩ := hr T hT X
  rw [h0] at hz hk
  have hv' : v' = v.map (gx_v E) := by cases hv; rfl
  subst hv'
  obtain ⟨t2, a1, b1⟩ := kk T'.heap (locs ++ L') (by rw [e1]; exact hP')
    ⟨Nat.le_trans hS.1 (by rw [e1]; exact hz), fun q h1 h2 => by rw [e1, hk q (Nat.lt_of_lt_of_le h1 hS.1) h2]; exact hS.2.1 q h1 h2, fun q hq => by
      rcases List.mem_append.mp hq with h | h
      · exact hS.2.2 q h
      · exact hL' q h⟩ T' rfl X'
  refine ⟨t2, stp t2 ?_, b1⟩
  have e : (v.toList ++ st).map (gx_v E) = (v.map (gx_v E)).toList ++ st.map (gx_v E) := by cases v <;> simp
  rw [e] at a1
  exact a1
theorem gx_upre {s : State} {H : Heap} {locs : List Loc} (hok : gx_ok E s s.heap) (hb : gx_b E ≤ s.heap.size) (hP : gx_P E h H) (hS : va_S (gx_A E) s.heap H locs) : ∀ U : State, U.heap = H → s.WarmedH U.vm → gx_P E h U.heap ∧ gx_ok E U U.heap ∧ gx_b E ≤ U.heap.size := by
  intro U hU hW
  rw [hU]
  exact ⟨hP, (hok.kept hb hS.2.1).warm hW, Nat.le_trans hb hS.1⟩
theorem gx_rm (hE : gx_fm E) (hst : (st.map fun v => v.category).sum ≤ 8) : ((st.map (gx_v E)).map fun v => v.category).sum ≤ 8 := by
  have e : (st.map (gx_v E)).map (fun v => v.category) = st.map (fun v => v.category) := by
    rw [List.map_map]
    refine List.map_congr_left fun v _ => ?_
    show (gx_v E v).category = v.category
    rcases lv_cat v with q | q
    · rw [q]; exact gx_c1 hE q
    · cases v <;> first | rfl | (simp [Value.category] at q)
  rw [e]
  exact hst
theorem gx_callS {idx n mc ms : Nat} {y : MethodName} {cy : ByteArray} {ny : Nat} {ρ' : Type} {em' : ρ' → Option Value} {f : Option (ρ' × gx_H)} {g : ρ' → gx_H → Option (ρ × gx_H)} {ry : Option FieldType} (As : List Value) (hw : gx_MS own idx y cy ny ry n) (hd : decode cc pc = .ok (.invokestatic idx, 3)) {st0 : List Value} (hst0 : st0 = As.reverse ++ st) (hn : As.length = n) (hst : (st.map fun v => v.category).sum ≤ 8)
    (hM : ∀ r h1, f = some (r, h1) → gx_M E y cy ny ry d mc ms As h (em' r) h1) (kk : ∀ (r : ρ') (h1 : gx_H), gx_G E own cc nL rt ini (d + 1) bc bs (pc + 3) L ((em' r).toList ++ st) h1 em (g r h1)) : gx_G E own cc nL rt ini (d + 1) (bc + mc) (bs + ms) pc L st0 h em (gx_bd f g) := by
  subst hst0
  unfold gx_bd
  refine gx_bind fun rh hf => ?_
  obtain ⟨r1, h1⟩ := rh
  intro r h' ho p e R s m args below meth c Q F hR H locs cells slots ls hP hS hc hs hL
  have hts := F.2.2.2.2.1
  have hok := F.2.2.2.2.2.1
  have hfr := F.2.2.2.2.2.2.1
  obtain ⟨⟨w1, w2, w3, w4⟩, w5, w6⟩ := hw
  refine gx_cont (ρ' := ρ') (y := y) (As := As) (v := em' r1) (h1 := h1) (va_runS (As := As.map (gx_v E)) (rest := st.map (gx_v E)) ⟨F.1, F.2.1, F.2.2.1, F.2.2.2.1, hts⟩ (hM r1 h1 hf) ⟨callB_of n hts (gx_good w1) rfl rfl rfl (hts _ w2) (hts _ w5) w3 ⟨hfr.1, by show 8 + (ny + 11) + 64 * d ≤ R.locals; omega⟩, hts _ w6⟩ ⟨gx_blind, fun U hU hW => ⟨rfl, gx_upre hok F.2.2.2.2.2.2.2.2 hP hS U hU hW⟩⟩ rfl (by rw [List.length_map]; exact hn) hL.2.1 (by show (As.reverse ++ st).map (gx_v E) = _; rw [List.map_append, List.map_reverse]) (lv_room (gx_rm F.fm hst)) hd ⟨by omega, by omega⟩) hS (fun H1 locs1 hP1 hS1 => ?_)
  exact kk r1 h1 r h' ho p e R s m args below meth c Q F hR H1 locs1 (cells + mc) (slots + ms) ls hP1 hS1 (by omega) (by omega) hL
theorem gx_callSN {idx n mc ms : Nat} {y : MethodName} {cy : ByteArray} {ny : Nat} {ρ' : Type} {em' : ρ' → Option Value} {f : Option (ρ' × gx_H)} {g : ρ' → gx_H → Option (ρ × gx_H)} {ry : Option FieldType} (As : List Value) (hw : gx_MSN own idx y cy ny ry n) (hd : decode cc pc = .ok (.invokestatic idx, 3)) {st0 : List Value} (hst0 : st0 = As.reverse ++ st) (hn : As.length = n) (hst : (st.map fun v => v.category).sum ≤ 8)
    (hM : ∀ r h1, f = some (r, h1) → gx_M E y cy ny ry d mc ms As h (em' r) h1) (kk : ∀ (r : ρ') (h1 : gx_H), gx_G E own cc nL rt ini (d + 1) bc bs (pc + 3) L ((em' r).toList ++ st) h1 em (g r h1)) : gx_G E own cc nL rt ini (d + 1) (bc + mc) (bs + ms) pc L st0 h em (gx_bd f g) := by
  subst hst0
  unfold gx_bd
  refine gx_bind fun rh hf => ?_
  obtain ⟨r1, h1⟩ := rh
  intro r h' ho p e R s m args below meth c Q F hR H locs cells slots ls hP hS hc hs hL
  have hts := F.2.2.2.2.1
  have hok := F.2.2.2.2.2.1
  have hfr := F.2.2.2.2.2.2.1
  obtain ⟨⟨w1, w2, w3, w4⟩, w5, w6⟩ := hw
  refine gx_cont (ρ' := ρ') (y := y) (As := As) (v := em' r1) (h1 := h1) (va_runSN (As := As.map (gx_v E)) (rest := st.map (gx_v E)) ⟨F.1, F.2.1, F.2.2.1, F.2.2.2.1, hts⟩ (hM r1 h1 hf) ⟨va_cnB n hts (gx_good w1) rfl rfl rfl (hok.2.1 _ w5) (hts _ w2) w3 ⟨hfr.1, by show 8 + (ny + 11) + 64 * d ≤ R.locals; omega⟩, hts _ w6, trivial⟩ ⟨gx_blind, fun U hU hW => ⟨rfl, gx_upre hok F.2.2.2.2.2.2.2.2 hP hS U hU hW⟩⟩ rfl (by rw [List.length_map]; exact hn) hL.2.1 (by show (As.reverse ++ st).map (gx_v E) = _; rw [List.map_append, List.map_reverse]) (lv_room (gx_rm F.fm hst)) hd ⟨by omega, by omega⟩) hS (fun H1 locs1 hP1 hS1 => ?_)
  exact kk r1 h1 r h' ho p e R s m args below meth c Q F hR H1 locs1 (cells + mc) (slots + ms) ls hP1 hS1 (by omega) (by omega) hL
theorem gx_callV {idx n mc ms : Nat} {y : MethodName} {cy : ByteArray} {ny : Nat} {ρ' : Type} {em' : ρ' → Option Value} {f : Option (ρ' × gx_H)} {g : ρ' → gx_H → Option (ρ × gx_H)} {ry : Option FieldType} {a ci : Nat} (As : List Value) (hw : gx_MV own idx y cy ny ry n) (hcl : (vwCl[ci]?).map (fun q => q.1) = some y.cls) (hd : decode cc pc = .ok (.invokevirtual idx, 3)) {st0 : List Value} (hst0 : st0 = As.reverse ++ .ref a :: st) (hn : As.length = n) (hst : (st.map fun v => v.category).sum ≤ 8)
    (hrec : ∀ x, f = some x → ∃ fs, h.2 a = .inr (ci, fs)) (hM : ∀ r h1, f = some (r, h1) → gx_M E y cy ny ry d mc ms (.ref a :: As) h (em' r) h1) (kk : ∀ (r : ρ') (h1 : gx_H), gx_G E own cc nL rt ini (d + 1) bc bs (pc + 3) L ((em' r).toList ++ st) h1 em (g r h1)) : gx_G E own cc nL rt ini (d + 1) (bc + mc) (bs + ms) pc L st0 h em (gx_bd f g) := by
  subst hst0
  unfold gx_bd
  refine gx_bind fun rh hf => ?_
  obtain ⟨fs, hfs⟩ := hrec _ hf
  obtain ⟨r1, h1⟩ := rh
  intro r h' ho p e R s m args below meth c Q F hR H locs cells slots ls hP hS hc hs hL
  have hts := F.2.2.2.2.1
  have hok := F.2.2.2.2.2.1
  have hfr := F.2.2.2.2.2.2.1
  obtain ⟨⟨w1, w2, w3, w4⟩, w5, w6, w7⟩ := hw
  obtain ⟨q, hq, hqc⟩ := Option.map_eq_some_iff.mp hcl
  have hci : ci < 10 := (List.getElem?_eq_some_iff.mp hq).1
  have hlt : a < h.1 := hP.lt (fun z => by rw [hfs] at z; cases z; omega)
  have hrv := va_recv hok.1 (hP.one hlt hfs) hq (q0 := 0) rfl
  rw [hqc] at hrv
  refine gx_cont (ρ' := ρ') (y := y) (As := As) (v := em' r1) (h1 := h1) (va_runV (As := As.map (gx_v E)) (rest := st.map (gx_v E)) ⟨F.1, F.2.1, F.2.2.1, F.2.2.2.1, hts⟩ (hM r1 h1 hf) ⟨callB_of n hts (gx_good w1) rfl rfl rfl (hts _ w2) (hts _ w5) w3 ⟨hfr.1, by show 8 + (ny + 11) + 64 * d ≤ R.locals; omega⟩, hts _ w6, hts _ w7⟩ ⟨gx_blind, hrv, fun U hU hW => ⟨rfl, gx_upre hok F.2.2.2.2.2.2.2.2 hP hS U hU hW⟩⟩ rfl (by rw [List.length_map]; exact hn) hL.2.1 (by show (As.reverse ++ .ref a :: st).map (gx_v E) = _; rw [List.map_append, List.map_reverse]; rfl) (lv_room (gx_rm F.fm hst)) hd ⟨by omega, by omega⟩) hS (fun H1 locs1 hP1 hS1 => ?_)
  exact kk r1 h1 r h' ho p e R s m args below meth c Q F hR H1 locs1 (cells + mc) (slots + ms) ls hP1 hS1 (by omega) (by omega) hL
theorem gx_callI {idx n mc ms : Nat} {y : MethodName} {cy : ByteArray} {ny : Nat} {ρ' : Type} {em' : ρ' → Option Value} {f : Option (ρ' × gx_H)} {g : ρ' → gx_H → Option (ρ × gx_H)} {a : Nat} (As : List Value) (hw : gx_MI own idx y cy ny n) (hd : decode cc pc = .ok (.invokespecial idx, 3)) {st0 : List Value} (hst0 : st0 = As.reverse ++ .ref a :: st) (hn : As.length = n) (hst : (st.map fun v => v.category).sum ≤ 8)
    (hM : ∀ r h1, f = some (r, h1) → gx_M E y cy ny none d mc ms (.ref a :: As) h (em' r) h1) (kk : ∀ (r : ρ') (h1 : gx_H), gx_G E own cc nL rt ini (d + 1) bc bs (pc + 3) L ((em' r).toList ++ st) h1 em (g r h1)) : gx_G E own cc nL rt ini (d + 1) (bc + mc) (bs + ms) pc L st0 h em (gx_bd f g) := by
  subst hst0
  unfold gx_bd
  refine gx_bind fun rh hf => ?_
  obtain ⟨r1, h1⟩ := rh
  intro r h' ho p e R s m args below meth c Q F hR H locs cells slots ls hP hS hc hs hL
  have hts := F.2.2.2.2.1
  have hok := F.2.2.2.2.2.1
  have hfr := F.2.2.2.2.2.2.1
  obtain ⟨⟨w1, w2, w3, w4⟩, w5, w6, w7⟩ := hw
  refine gx_cont (ρ' := ρ') (y := y) (As := As) (v := em' r1) (h1 := h1) (va_runI (As := As.map (gx_v E)) (rest := st.map (gx_v E)) ⟨F.1, F.2.1, F.2.2.1, F.2.2.2.1, hts⟩ (hM r1 h1 hf) ⟨callB_of n hts (gx_good w1) rfl rfl rfl (hts _ w2) (hts _ w5) w3 ⟨hfr.1, by show 8 + (ny + 11) + 64 * d ≤ R.locals; omega⟩, w7, hts _ w6⟩ ⟨gx_blind, fun U hU hW => ⟨rfl, gx_upre hok F.2.2.2.2.2.2.2.2 hP hS U hU hW⟩⟩ rfl (by rw [List.length_map]; exact hn) hL.2.1 (by show (As.reverse ++ .ref a :: st).map (gx_v E) = _; rw [List.map_append, List.map_reverse]; rfl) (lv_room (gx_rm F.fm hst)) hd ⟨by omega, by omega⟩) hS (fun H1 locs1 hP1 hS1 => ?_)
  exact kk r1 h1 r h' ho p e R s m args below meth c Q F hR H1 locs1 (cells + mc) (slots + ms) ls hP1 hS1 (by omega) (by omega) hL
theorem gx_callIN {idx n mc ms : Nat} {y : MethodName} {cy : ByteArray} {ny : Nat} {ρ' : Type} {em' : ρ' → Option Value} {f : Option (ρ' × gx_H)} {g : ρ' → gx_H → Option (ρ × gx_H)} {a : Nat} (As : List Value) (hw : gx_MIN own idx y cy ny n) (hd : decode cc pc = .ok (.invokespecial idx, 3)) {st0 : List Value} (hst0 : st0 = As.reverse ++ .ref a :: st) (hn : As.length = n) (hst : (st.map fun v => v.category).sum ≤ 8)
    (hM : ∀ r h1, f = some (r, h1) → gx_M E y cy ny none d mc ms (.ref a :: As) h (em' r) h1) (kk : ∀ (r : ρ') (h1 : gx_H), gx_G E own cc nL rt ini (d + 1) bc bs (pc + 3) L ((em' r).toList ++ st) h1 em (g r h1)) : gx_G E own cc nL rt ini (d + 1) (bc + mc) (bs + ms) pc L st0 h em (gx_bd f g) := by
  subst hst0
  unfold gx_bd
  refine gx_bind fun rh hf => ?_
  obtain ⟨r1, h1⟩ := rh
  intro r h' ho p e R s m args below meth c Q F hR H locs cells slots ls hP hS hc hs hL
  have hts := F.2.2.2.2.1
  have hok := F.2.2.2.2.2.1
  have hfr := F.2.2.2.2.2.2.1
  obtain ⟨⟨w1, w2, w3, w4⟩, w5, w6, w7⟩ := hw
  refine gx_cont (ρ' := ρ') (y := y) (As := As) (v := em' r1) (h1 := h1) (va_runIN (As := As.map (gx_v E)) (rest := st.map (gx_v E)) ⟨F.1, F.2.1, F.2.2.1, F.2.2.2.1, hts⟩ (hM r1 h1 hf) ⟨va_cnB n hts (gx_good w1) rfl rfl rfl (hok.2.1 _ w5) (hts _ w2) w3 ⟨hfr.1, by show 8 + (ny + 11) + 64 * d ≤ R.locals; omega⟩, w7, hts _ w6⟩ ⟨gx_blind, fun U hU hW => ⟨rfl, gx_upre hok F.2.2.2.2.2.2.2.2 hP hS U hU hW⟩⟩ rfl (by rw [List.length_map]; exact hn) hL.2.1 (by show (As.reverse ++ .ref a :: st).map (gx_v E) = _; rw [List.map_append, List.map_reverse]; rfl) (lv_room (gx_rm F.fm hst)) hd ⟨by omega, by omega⟩) hS (fun H1 locs1 hP1 hS1 => ?_)
  exact kk r1 h1 r h' ho p e R s m args below meth c Q F hR H1 locs1 (cells + mc) (slots + ms) ls hP1 hS1 (by omega) (by omega) hL
theorem gx_obj {idx a : Nat} (hw : Cond.methodLink own idx objectInit ∈ gx_tbl) (hw2 : Cond.instanceMethod objectInit ∈ gx_tbl) (hw3 : Cond.code objectInit ⟨#[0xb1]⟩ 1 none ∈ gx_tbl) (hd : decode cc pc = .ok (.invokespecial idx, 3)) (hst : (st.map fun v => v.category).sum ≤ 8) (kk : gx_G E own cc nL rt ini (d + 1) bc bs (pc + 3) L st h em o) : gx_G E own cc nL rt ini (d + 1) bc bs pc L (.ref a :: st) h em o := by
  refine fun r h' ho p e R s m args below meth c Q F hR H locs cells slots ls hP hS hc hs hL => ?_
  have hfr := F.2.2.2.2.2.2.1
  have hq := lv_room (m := m) (pc := pc) (ls := ls) (rest := ((.ref a :: st).map (gx_v E))) (gx_rm F.fm hst)
  refine W.objInit F.1 F.2.1 F.2.2.2.1 (F.2.2.2.2.1 _ hw) (F.2.2.2.2.1 _ hw2) (F.2.2.2.2.1 _ hw3) rfl (hL.2.1.trans F.2.2.1.symm) (rest := st.map (gx_v E)) rfl hd (by omega) (by omega) ?_
  exact kk r h' ho p e R s m args below meth c Q F hR H locs cells slots ls hP hS hc hs hL
theorem gx_none : gx_G E own cc nL rt ini d bc bs pc L st h em none := fun r h' ho => by cases ho
/-- fewer locals are looked at -/
def gx_le : List (Option Value) → List (Option Value) → Prop
  | [], [] => True
  | _ :: a, none :: b => gx_le a b
  | some v :: a, some w :: b => v = w ∧ gx_le a b
  | _, _ => False
theorem gx_le_len : ∀ (a b : List (Option Value)), gx_le a b → a.length = b.length
  | [], [], _ => rfl
  | [], none :: b, q => q.elim
  | [], some _ :: b, q => q.elim
  | _ :: a, [], q => by cases ‹Option Value› <;> exact q.elim
  | none :: a, none :: b, q => congrArg (· + 1) (gx_le_len a b q)
  | some _ :: a, none :: b, q => congrArg (· + 1) (gx_le_len a b q)
  | some _ :: a, some _ :: b, q => congrArg (· + 1) (gx_le_len a b q.2)
  | none :: a, some _ :: b, q => q.elim
theorem gx_le_at : ∀ (a b : List (Option Value)), gx_le a b → ∀ (i : Nat) (v : Value), b[i]? = some (some v) → a[i]? = some (some v)
  | [], [], _, i, v, h => by simp at h
  | [], none :: b, q, i, v, h => q.elim
  | [], some _ :: b, q, i, v, h => q.elim
  | _ :: a, [], q, i, v, h => by simp at h
  | none :: a, none :: b, q, i, v, h => by
    cases i with
    | zero => simp at h
    | succ i => exact gx_le_at a b q i v h
  | some _ :: a, none :: b, q, i, v, h => by
    cases i with
    | zero => simp at h
    | succ i => exact gx_le_at a b q i v h
  | some x :: a, some y :: b, q, i, v, h => by
    cases i with
    | zero => rw [q.1]; exact h
    | succ i => exact gx_le_at a b q.2 i v h
  | none :: a, some _ :: b, q, i, v, h => q.elim
theorem gx_sub {L' : List (Option Value)} (hl : gx_le L L') (k : gx_G E own cc nL rt ini d bc bs pc L' st h em o) : gx_G E own cc nL rt ini d bc bs pc L st h em o := by
  intro r h' ho p e R s m args below meth c Q F hR H locs cells slots ls hP hS hc hs hL
  refine k r h' ho p e R s m args below meth c Q F hR H locs cells slots ls hP hS hc hs ⟨(gx_le_len L L' hl).symm.trans hL.1, hL.2.1, hL.2.2.1, fun q hq => ?_⟩
  obtain ⟨⟨j, w⟩, hj, rfl⟩ := List.mem_map.mp hq
  have hj := ((gx_as_iff _ 0 j w).mp hj).2
  rw [Nat.sub_zero] at hj
  exact hL.at (gx_le_at L L' hl j w hj)
theorem gx_letG {a : gx_H} {f : gx_H → Option (ρ × gx_H)} (k : gx_G E own cc nL rt ini d bc bs pc L st h em (f a)) : gx_G E own cc nL rt ini d bc bs pc L st h em (gx_let a f) := k
theorem gx_w8 {st : List Value} (q : Nat.ble ((st.map fun v => v.category).sum) 8 = true) : (st.map fun v => v.category).sum ≤ 8 := Nat.le_of_ble_eq_true q
/-! ends -/
theorem gx_iret {x : Int32} (hd : decode cc pc = .ok (.ireturn, 1)) (hr : rt = some .int) : gx_G E own cc nL rt ini d bc bs pc L [.int x] h (fun x : Int32 => some (.int x)) (some (x, h)) := by
  intro r h' ho p e R s m args below meth c Q F hR H locs cells slots ls hP hS hc hs hL
  cases ho
  exact hR H locs cells slots pc ls hP hS (by omega) (by omega) ⟨hd, _, hr, rfl⟩
def gx_ret (ty : FieldType) (x : Int32) (h : gx_H) : Option (Int32 × gx_H) := if narrow ty (.int x) = .int x then some (x, h) else none
theorem gx_zret {ty : FieldType} {x : Int32} (hd : decode cc pc = .ok (.ireturn, 1)) (hr : rt = some ty) : gx_G E own cc nL rt ini d bc bs pc L [.int x] h (fun x : Int32 => some (.int x)) (gx_ret ty x h) := by
  intro r h' ho p e R s m args below meth c Q F hR H locs cells slots ls hP hS hc hs hL
  unfold gx_ret at ho
  split at ho
  · rename_i hn
    cases ho
    exact hR H locs cells slots pc ls hP hS (by omega) (by omega) ⟨hd, _, hr, hn⟩
  · cases ho
theorem gx_lret {x : Int64} (hd : decode cc pc = .ok (.lreturn, 1)) (hr : rt = some .long) : gx_G E own cc nL rt ini d bc bs pc L [.long x] h (fun x : Int64 => some (.long x)) (some (x, h)) := by
  intro r h' ho p e R s m args below meth c Q F hR H locs cells slots ls hP hS hc hs hL
  cases ho
  exact hR H locs cells slots pc ls hP hS (by omega) (by omega) ⟨hd, hr⟩
theorem gx_aret {x : Nat} {ty : FieldType} (hd : decode cc pc = .ok (.areturn, 1)) (hr : rt = some ty) (hty : (∃ n, ty = .object n) ∨ ∃ t, ty = .array t) : gx_G E own cc nL rt ini d bc bs pc L [.ref x] h (fun x : Nat => some (.ref x)) (some (x, h)) := by
  intro r h' ho p e R s m args below meth c Q F hR H locs cells slots ls hP hS hc hs hL
  cases ho
  exact hR H locs cells slots pc ls hP hS (by omega) (by omega) ⟨hd, _, hr, hty⟩
theorem gx_vret (hd : decode cc pc = .ok (.return_, 1)) (hr : rt = none) : gx_G E own cc nL rt ini d bc bs pc L [] h (fun _ : Unit => none) (some ((), h)) := by
  intro r h' ho p e R s m args below meth c Q F hR H locs cells slots ls hP hS hc hs hL
  cases ho
  exact hR H locs cells slots pc ls hP hS (by omega) (by omega) ⟨hd, hr⟩
/-- a method, out of its body -/
theorem gx_meth {y : MethodName} {mc ms : Nat} (As : List Value) {r : ρ} {h' : gx_H} (hy : plainName y.cls = true) (hlen : (gx_sl As).length ≤ nL) (hini : ini = true → y.name = "<init>")
    (hg : gx_G E y.cls cc nL rt ini d mc ms 0 (gx_L0 nL As) [] h em o) (ho : o = some (r, h')) : gx_M E y cc nL rt d mc ms As h (em r) h' := by
  refine Met.ofW (cc := cc) (maxL := nL) (ret := rt) hy rfl ?_
  intro p e s m args below meth c s₁ B hml hv
  obtain ⟨rfl, hP, hok, hb⟩ := hv
  have hts := atoms_spec (ws := Cond.code y cc nL rt :: gx_tbl) B.pre
  have hown : s.vm.findClass y.cls = some m.cls := findClass_of_methodNamed B.named
  have F : gx_F E y.cls cc nL d ini p ({ frames := d, cells := mc, slots := ms, locals := 64 * d } : Room) s m (As.map (gx_v E)).toArray meth c := ⟨B.exec, B.bytes, hml, hown, fun w hw => hts w (List.mem_cons_of_mem _ hw), hok, ⟨Nat.le_refl _, Nat.le_refl _⟩, fun q => (name_of_methodNamed B.named B.method).1.trans (hini q), hb⟩
  rw [lg_entry_eq]
  refine hg r h' ho p e ({ frames := d, cells := mc, slots := ms, locals := 64 * d } : Room) s m (As.map (gx_v E)).toArray below meth c _ F ?_ s.heap [] 0 0 _ hP va_S.rf (by show 0 + mc ≤ mc; omega) (by show 0 + ms ≤ ms; omega) (gx_entry F.fm As hlen)
  intro H locs cells slots pc ls hP' hS' hc' hs' hret
  have hlocks := B.notSynchronized
  have hrt := B.returns
  refine W.widen (k := mc) (n := ms) hc' hs' ?_
  generalize em r = v at hret
  match v, hret with
  | some (.int x), hret =>
    obtain ⟨h1, ty, h2, h3⟩ := hret
    exact W.zret B.exec B.bytes (hrt.trans h2) h3 (fun t ht _ => ⟨rfl, by rw [ht]; exact hP', hS'.F ht⟩) hS'.2.2 h1
  | some (.long x), hret =>
    obtain ⟨h1, h2⟩ := hret
    exact W.lret B.exec B.bytes (hrt.trans h2) (fun t ht _ => ⟨rfl, by rw [ht]; exact hP', hS'.F ht⟩) hS'.2.2 h1
  | some (.ref x), hret =>
    obtain ⟨h1, ty, h2, h3⟩ := hret
    exact W.aret B.exec B.bytes (hrt.trans h2) h3 (Or.inr ⟨_, rfl⟩) (fun t ht _ => ⟨rfl, by rw [ht]; exact hP', hS'.F ht⟩) hS'.2.2 h1
  | none, hret =>
    obtain ⟨h1, h2⟩ := hret
    exact W.vret B.exec B.bytes (hrt.trans h2) (fun t ht _ => ⟨rfl, by rw [ht]; exact hP', hS'.F ht⟩) hS'.2.2 h1
end GXC
end
section
/-! things from outside: texts, their bytes, statics, the script -/
def gx_kis (w : Nat) : Option Unit := if w < 5 then some () else none
def gx_kc (w : Nat) : Option Int32 := if w < 5 then some 0 else none
def gx_kv (w : Nat) : Option Nat := if w < 5 then some (5 + w) else none
def gx_kl (w : Nat) : Option Int32 := if 5 ≤ w ∧ w < 10 then some (Int32.ofNat (gx_len.getD (w - 5) 0)) else none
def gx_kb (w : Nat) (i : Int32) : Option Int32 := if (5 ≤ w ∧ w < 10) ∧ ¬ (i < 0 ∨ gx_len.getD (w - 5) 0 ≤ i.toNatClampNeg) then some ((gx_byt.getD (w - 5) []).getD i.toNatClampNeg 0) else none
def gx_sc (E : gx_Env) (i : Int32) : Option Int32 := if ¬ (i < 0 ∨ gx_sN E ≤ i.toNatClampNeg) then some (gx_sX E i.toNatClampNeg) else none
theorem gx_kis_of {α : Type} {w : Nat} {f : Unit → Option α} {x : α} (q : (gx_kis w).bind f = some x) : w < 5 := by
  obtain ⟨u, hu, -⟩ := Option.bind_eq_some_iff.mp q
  unfold gx_kis at hu
  split at hu
  · assumption
  · cases hu
section GXK
variable {E : gx_Env} {own : String} {cc : ByteArray} {nL : Nat} {rt : Option FieldType} {ini : Bool} {d bc bs pc : Nat} {L : List (Option Value)} {st : List Value} {h : gx_H} {ρ : Type} {em : ρ → Option Value} {o o1 o2 : Option (ρ × gx_H)}
theorem gx_ldcS {i idx : Nat} {tx : String} (hi : i ≠ 10) (hq : gx_txt[i]? = some (idx, tx)) (hown : own = RX9) (hd : decode cc pc = .ok (.ldc idx, 2)) (k : gx_G E own cc nL rt ini d bc bs (pc + 2) L (.retAddr i :: st) h em o) : gx_G E own cc nL rt ini d bc bs pc L st h em o := by
  subst hown
  refine gx_pure (fun F hL k => ?_) k
  rw [List.map_cons, gx_kref hi] at k
  exact va_ldcS F.1 F.2.1 F.2.2.2.1 (F.2.2.2.2.2.1.2.2.2.2.2.1 i _ hq) hd k
theorem gx_kval {idx w : Nat} {f : Nat → Option (ρ × gx_H)} (hw : Cond.fieldLink own idx "java/lang/String" "value" "[B" ∈ gx_tbl) (hd : decode cc pc = .ok (.getfield idx, 3)) (kk : ∀ x, gx_G E own cc nL rt ini d bc bs (pc + 3) L (.retAddr x :: st) h em (f x)) : gx_G E own cc nL rt ini d bc bs pc L (.retAddr w :: st) h em ((gx_kv w).bind f) := by
  refine gx_bind fun x hx => ?_
  unfold gx_kv at hx
  split at hx
  · rename_i hw5
    cases hx
    intro r h' ho p e R s m args below meth c Q F hR H locs cells slots ls hP hS hc hs hL
    rw [List.map_cons, gx_kref (by omega)]
    have k := kk (5 + w) r h' ho p e R s m args below meth c Q F hR H locs cells slots ls hP hS hc hs hL
    rw [List.map_cons, gx_kref (by omega)] at k
    exact vk_getf F.1 F.2.1 (F.2.2.2.2.2.1.2.2.2.2.1.1 w hw5).2.2.1 hS F.2.2.2.1 (F.2.2.2.2.1 _ hw) (fun x hx => hx) hd k
  · cases hx
theorem gx_kcod {idx w : Nat} {f : Int32 → Option (ρ × gx_H)} (hw : Cond.fieldLink own idx "java/lang/String" "coder" "B" ∈ gx_tbl) (hd : decode cc pc = .ok (.getfield idx, 3)) (kk : ∀ x, gx_G E own cc nL rt ini d bc bs (pc + 3) L (.int x :: st) h em (f x)) : gx_G E own cc nL rt ini d bc bs pc L (.retAddr w :: st) h em ((gx_kc w).bind f) := by
  refine gx_bind fun x hx => ?_
  unfold gx_kc at hx
  split at hx
  · rename_i hw5
    cases hx
    intro r h' ho p e R s m args below meth c Q F hR H locs cells slots ls hP hS hc hs hL
    rw [List.map_cons, gx_kref (by omega)]
    exact vk_getf F.1 F.2.1 (F.2.2.2.2.2.1.2.2.2.2.1.1 w hw5).2.1 hS F.2.2.2.1 (F.2.2.2.2.1 _ hw) (fun x hx => hx) hd (kk 0 r h' ho p e R s m args below meth c Q F hR H locs cells slots ls hP hS hc hs hL)
  · cases hx
theorem gx_klen {w : Nat} {f : Int32 → Option (ρ × gx_H)} (hd : decode cc pc = .ok (.arraylength, 1)) (kk : ∀ x, gx_G E own cc nL rt ini d bc bs (pc + 1) L (.int x :: st) h em (f x)) : gx_G E own cc nL rt ini d bc bs pc L (.retAddr w :: st) h em ((gx_kl w).bind f) := by
  refine gx_bind fun x hx => ?_
  unfold gx_kl at hx
  split at hx
  · rename_i hw5
    cases hx
    intro r h' ho p e R s m args below meth c Q F hR H locs cells slots ls hP hS hc hs hL
    rw [List.map_cons, gx_kref (by omega)]
    have hT := (F.2.2.2.2.2.1.2.2.2.2.1.1 (w - 5) (by omega)).2.2.2
    have e5 : 5 + (w - 5) = w := by omega
    dsimp only at hT
    rw [e5] at hT
    exact va_tlen F.1 F.2.1 hT hS rfl hd (kk _ r h' ho p e R s m args below meth c Q F hR H locs cells slots ls hP hS hc hs hL)
  · cases hx
theorem gx_kbyt {w : Nat} {i : Int32} {f : Int32 → Option (ρ × gx_H)} (hd : decode cc pc = .ok (.baload, 1)) (kk : ∀ x, gx_G E own cc nL rt ini d bc bs (pc + 1) L (.int x :: st) h em (f x)) : gx_G E own cc nL rt ini d bc bs pc L (.int i :: .retAddr w :: st) h em ((gx_kb w i).bind f) := by
  refine gx_bind fun x hx => ?_
  unfold gx_kb at hx
  split at hx
  · rename_i hw5
    obtain ⟨hw5, hin⟩ := hw5
    cases hx
    intro r h' ho p e R s m args below meth c Q F hR H locs cells slots ls hP hS hc hs hL
    rw [List.map_cons, List.map_cons, gx_kref (by omega)]
    have hT := (F.2.2.2.2.2.1.2.2.2.2.1.1 (w - 5) (by omega)).2.2.2
    have e5 : 5 + (w - 5) = w := by omega
    dsimp only at hT
    rw [e5] at hT
    exact va_tb F.1 F.2.1 hT hS hin rfl hd (kk _ r h' ho p e R s m args below meth c Q F hR H locs cells slots ls hP hS hc hs hL)
  · cases hx
theorem gx_stC {idx : Nat} (hw : Cond.fieldLink own idx "java/lang/String" "COMPACT_STRINGS" "Z" ∈ gx_tbl) (hd : decode cc pc = .ok (.getstatic idx, 3)) (kk : gx_G E own cc nL rt ini d bc bs (pc + 3) L (.int 1 :: st) h em o) : gx_G E own cc nL rt ini d bc bs pc L st h em o := by
  intro r h' ho p e R s m args below meth c Q F hR H locs cells slots ls hP hS hc hs hL
  exact va_gets F.1 F.2.1 F.2.2.2.2.2.1.2.2.2.2.2.2.1 hS F.2.2.2.1 (F.2.2.2.2.1 _ hw) (fun x hx => hx) hd (kk r h' ho p e R s m args below meth c Q F hR H locs cells slots ls hP hS hc hs hL)
theorem gx_stF {idx : Nat} (hw : Cond.fieldLink own idx "jdk/internal/util/Preconditions" "SIOOBE_FORMATTER" "Ljava/util/function/BiFunction;" ∈ gx_tbl) (hd : decode cc pc = .ok (.getstatic idx, 3)) (kk : gx_G E own cc nL rt ini d bc bs (pc + 3) L (.retAddr 10 :: st) h em o) : gx_G E own cc nL rt ini d bc bs pc L st h em o := by
  intro r h' ho p e R s m args below meth c Q F hR H locs cells slots ls hP hS hc hs hL
  exact va_gets F.1 F.2.1 F.2.2.2.2.2.1.2.2.2.2.2.2.2.1 hS F.2.2.2.1 (F.2.2.2.2.1 _ hw) (fun x hx => hx) hd (kk r h' ho p e R s m args below meth c Q F hR H locs cells slots ls hP hS hc hs hL)
theorem gx_sld {i : Int32} {f : Int32 → Option (ρ × gx_H)} (hd : decode cc pc = .ok (.iaload, 1)) (kk : ∀ x, gx_G E own cc nL rt ini d bc bs (pc + 1) L (.int x :: st) h em (f x)) : gx_G E own cc nL rt ini d bc bs pc L (.int i :: .retAddr 11 :: st) h em ((gx_sc E i).bind f) := by
  refine gx_bind fun x hx => ?_
  unfold gx_sc at hx
  split at hx
  · rename_i hin
    cases hx
    intro r h' ho p e R s m args below meth c Q F hR H locs cells slots ls hP hS hc hs hL
    have hx := F.2.2.2.2.2.1.2.2.2.2.2.2.2.2.2
    have hb := F.2.2.2.2.2.2.2.2
    exact va_sld F.1 F.2.1 hx.1 (Nat.lt_of_lt_of_le hx.2 hb) (by show ¬ gx_b E ≤ _; have := hx.2; omega) hS hin hd (kk _ r h' ho p e R s m args below meth c Q F hR H locs cells slots ls hP hS hc hs hL)
  · cases hx
theorem gx_slen (hd : decode cc pc = .ok (.arraylength, 1)) (kk : gx_G E own cc nL rt ini d bc bs (pc + 1) L (.int (Int32.ofNat (gx_sN E)) :: st) h em o) : gx_G E own cc nL rt ini d bc bs pc L (.retAddr 11 :: st) h em o := by
  intro r h' ho p e R s m args below meth c Q F hR H locs cells slots ls hP hS hc hs hL
  have hx := F.2.2.2.2.2.1.2.2.2.2.2.2.2.2.2
  have hb := F.2.2.2.2.2.2.2.2
  exact va_slen F.1 F.2.1 hx.1 (Nat.lt_of_lt_of_le hx.2 hb) (by show ¬ gx_b E ≤ _; have := hx.2; omega) hS hd (kk r h' ho p e R s m args below meth c Q F hR H locs cells slots ls hP hS hc hs hL)
theorem gx_callK {idx n mc ms : Nat} {y : MethodName} {cy : ByteArray} {ny : Nat} {ρ' : Type} {em' : ρ' → Option Value} {f : Option (ρ' × gx_H)} {g : ρ' → gx_H → Option (ρ × gx_H)} {ry : Option FieldType} {w : Nat} (As : List Value) (hw : gx_MV own idx y cy ny ry n) (hcl : y.cls = "java/lang/String") (hd : decode cc pc = .ok (.invokevirtual idx, 3)) {st0 : List Value} (hst0 : st0 = As.reverse ++ .retAddr w :: st) (hn : As.length = n) (hst : (st.map fun v => v.category).sum ≤ 8)
    (hrec : ∀ x, f = some x → w < 5) (hM : ∀ r h1, f = some (r, h1) → gx_M E y cy ny ry d mc ms (.retAddr w :: As) h (em' r) h1) (kk : ∀ (r : ρ') (h1 : gx_H), gx_G E own cc nL rt ini (d + 1) bc bs (pc + 3) L ((em' r).toList ++ st) h1 em (g r h1)) : gx_G E own cc nL rt ini (d + 1) (bc + mc) (bs + ms) pc L st0 h em (gx_bd f g) := by
  subst hst0
  unfold gx_bd
  refine gx_bind fun rh hf => ?_
  have hw5 := hrec _ hf
  obtain ⟨r1, h1⟩ := rh
  intro r h' ho p e R s m args below meth c Q F hR H locs cells slots ls hP hS hc hs hL
  have hts := F.2.2.2.2.1
  have hok := F.2.2.2.2.2.1
  have hfr := F.2.2.2.2.2.2.1
  obtain ⟨⟨w1, w2, w3, w4⟩, w5, w6, w7⟩ := hw
  have hrv := vk_recv hok.2.2.2.2.1 hw5 hS
  have hkw : gx_v E (.retAddr w) = .ref (gx_aK E w) := gx_kref (by omega)
  have hMM := hM r1 h1 hf
  unfold gx_M at hMM
  rw [List.map_cons, hkw] at hMM
  rw [← hcl] at hrv
  refine gx_cont (ρ' := ρ') (y := y) (As := As) (v := em' r1) (h1 := h1) (va_runV (As := As.map (gx_v E)) (rest := st.map (gx_v E)) ⟨F.1, F.2.1, F.2.2.1, F.2.2.2.1, hts⟩ hMM ⟨callB_of n hts (gx_good w1) rfl rfl rfl (hts _ w2) (hts _ w5) w3 ⟨hfr.1, by show 8 + (ny + 11) + 64 * d ≤ R.locals; omega⟩, hts _ w6, hts _ w7⟩ ⟨gx_blind, hrv, fun U hU hW => ⟨rfl, gx_upre hok F.2.2.2.2.2.2.2.2 hP hS U hU hW⟩⟩ rfl (by rw [List.length_map]; exact hn) hL.2.1 (by show (As.reverse ++ .retAddr w :: st).map (gx_v E) = _; rw [List.map_append, List.map_reverse, List.map_cons, hkw]) (lv_room (gx_rm F.fm hst)) hd ⟨by omega, by omega⟩) hS (fun H1 locs1 hP1 hS1 => ?_)
  exact kk r1 h1 r h' ho p e R s m args below meth c Q F hR H1 locs1 (cells + mc) (slots + ms) ls hP1 hS1 (by omega) (by omega) hL
end GXK
end
section
theorem gx_ins {ws : List Cond} (ps : List Nat) (h : ps.filterMap (fun i => lw_tbl[i]?) = ws) (hg : ws.all goodWord = true) : ∀ w ∈ ws, w ∈ gx_tbl := by
  intro w hw
  have hg1 := List.all_eq_true.mp hg w hw
  rw [← h] at hw
  obtain ⟨i, -, hi⟩ := List.mem_filterMap.mp hw
  exact gx_mem i hi hg1
theorem inX0 : ∀ w ∈ u_ws RX0 TX0 11, w ∈ gx_tbl := gx_ins [160, 162, 164, 166, 168, 170, 172, 174, 176, 178, 180] (by decide +kernel) (by decide +kernel)
theorem inX1 : ∀ w ∈ u_ws RX1 TX1 4, w ∈ gx_tbl := gx_ins [268, 270, 272, 274] (by decide +kernel) (by decide +kernel)
theorem inX2 : ∀ w ∈ u_ws RX2 TX2 1, w ∈ gx_tbl := gx_ins [360] (by decide +kernel) (by decide +kernel)
theorem inX3 : ∀ w ∈ u_ws RX3 TX3 2, w ∈ gx_tbl := gx_ins [227, 229] (by decide +kernel) (by decide +kernel)
theorem inX5 : ∀ w ∈ u_ws RX5 TX5 8, w ∈ gx_tbl := gx_ins [336, 338, 340, 342, 344, 346, 348, 350] (by decide +kernel) (by decide +kernel)
theorem inX7 : ∀ w ∈ u_ws RX7 TX7 5, w ∈ gx_tbl := gx_ins [249, 251, 253, 255, 257] (by decide +kernel) (by decide +kernel)
theorem inX8 : ∀ w ∈ u_ws RX8 TX8 5, w ∈ gx_tbl := gx_ins [213, 215, 217, 219, 221] (by decide +kernel) (by decide +kernel)
theorem inX9 : ∀ w ∈ u_ws RX9 TX9 8, w ∈ gx_tbl := gx_ins [298, 300, 302, 304, 306, 308, 310, 312] (by decide +kernel) (by decide +kernel)
theorem inX10 : ∀ w ∈ u_ws RX10 TX10 11, w ∈ gx_tbl := gx_ins [374, 376, 378, 380, 382, 384, 386, 388, 390, 392, 394] (by decide +kernel) (by decide +kernel)
theorem inX11 : ∀ w ∈ u_ws RX11 TX11 14, w ∈ gx_tbl := gx_ins [1018, 1020, 1022, 1024, 1026, 1028, 1030, 1032, 1034, 1036, 1038, 1040, 1042, 1044] (by decide +kernel) (by decide +kernel)
theorem kk_RX0_3 : Cond.methodLink RX0 3 objectInit ∈ gx_tbl := gx_mem 114 (by decide +kernel) (by decide +kernel)
theorem ko_i : Cond.instanceMethod objectInit ∈ gx_tbl := gx_mem 101 (by decide +kernel) (by decide +kernel)
theorem ko_c : Cond.code objectInit ⟨#[0xb1]⟩ 1 none ∈ gx_tbl := gx_mem 102 (by decide +kernel) (by decide +kernel)
theorem kp_RX0_9 : gx_FldP RX0 9 0 0 false .int := ⟨RX0, TX0, 11, rfl, inX0, by decide, gx_mem 115 (by decide +kernel) (by decide +kernel), ⟨tyX0, tyX0_ok⟩, nmX0, rfl, by decide +kernel, fun q => by cases q⟩
theorem kp_RX0_15 : gx_FldP RX0 15 0 1 false .int := ⟨RX0, TX0, 11, rfl, inX0, by decide, gx_mem 120 (by decide +kernel) (by decide +kernel), ⟨tyX0, tyX0_ok⟩, nmX0, rfl, by decide +kernel, fun q => by cases q⟩
theorem kp_RX0_18 : gx_FldP RX0 18 0 2 false .int := ⟨RX0, TX0, 11, rfl, inX0, by decide, gx_mem 124 (by decide +kernel) (by decide +kernel), ⟨tyX0, tyX0_ok⟩, nmX0, rfl, by decide +kernel, fun q => by cases q⟩
theorem kp_RX0_21 : gx_FldP RX0 21 0 3 false .int := ⟨RX0, TX0, 11, rfl, inX0, by decide, gx_mem 129 (by decide +kernel) (by decide +kernel), ⟨tyX0, tyX0_ok⟩, nmX0, rfl, by decide +kernel, fun q => by cases q⟩
theorem ka_int : Cond.arrayClass .int ∈ gx_tbl := gx_mem 183 (by decide +kernel) (by decide +kernel)
theorem kp_RX0_24 : gx_FldP RX0 24 0 4 true (.array .int) := ⟨RX0, TX0, 11, rfl, inX0, by decide, gx_mem 134 (by decide +kernel) (by decide +kernel), ⟨tyX0, tyX0_ok⟩, nmX0, rfl, by decide +kernel, fun _ => rfl⟩
theorem kp_RX0_28 : gx_FldP RX0 28 0 5 true (.array .int) := ⟨RX0, TX0, 11, rfl, inX0, by decide, gx_mem 137 (by decide +kernel) (by decide +kernel), ⟨tyX0, tyX0_ok⟩, nmX0, rfl, by decide +kernel, fun _ => rfl⟩
theorem kp_RX0_31 : gx_FldP RX0 31 0 6 true (.array .int) := ⟨RX0, TX0, 11, rfl, inX0, by decide, gx_mem 142 (by decide +kernel) (by decide +kernel), ⟨tyX0, tyX0_ok⟩, nmX0, rfl, by decide +kernel, fun _ => rfl⟩
theorem kp_RX0_34 : gx_FldP RX0 34 0 7 true (.array .int) := ⟨RX0, TX0, 11, rfl, inX0, by decide, gx_mem 146 (by decide +kernel) (by decide +kernel), ⟨tyX0, tyX0_ok⟩, nmX0, rfl, by decide +kernel, fun _ => rfl⟩
theorem kp_RX0_37 : gx_FldP RX0 37 0 8 true (.array .int) := ⟨RX0, TX0, 11, rfl, inX0, by decide, gx_mem 149 (by decide +kernel) (by decide +kernel), ⟨tyX0, tyX0_ok⟩, nmX0, rfl, by decide +kernel, fun _ => rfl⟩
theorem kp_RX0_40 : gx_FldP RX0 40 0 9 true (.array .int) := ⟨RX0, TX0, 11, rfl, inX0, by decide, gx_mem 152 (by decide +kernel) (by decide +kernel), ⟨tyX0, tyX0_ok⟩, nmX0, rfl, by decide +kernel, fun _ => rfl⟩
theorem kp_RX0_43 : gx_FldP RX0 43 0 10 true (.array .int) := ⟨RX0, TX0, 11, rfl, inX0, by decide, gx_mem 157 (by decide +kernel) (by decide +kernel), ⟨tyX0, tyX0_ok⟩, nmX0, rfl, by decide +kernel, fun _ => rfl⟩
theorem kf_RX0_9 : gx_Fld RX0 9 0 0 := ⟨RX0, TX0, 11, rfl, inX0, by decide, gx_mem 115 (by decide +kernel) (by decide +kernel)⟩
theorem kf_RX0_15 : gx_Fld RX0 15 0 1 := ⟨RX0, TX0, 11, rfl, inX0, by decide, gx_mem 120 (by decide +kernel) (by decide +kernel)⟩
theorem kf_RX0_18 : gx_Fld RX0 18 0 2 := ⟨RX0, TX0, 11, rfl, inX0, by decide, gx_mem 124 (by decide +kernel) (by decide +kernel)⟩
theorem kf_RX0_21 : gx_Fld RX0 21 0 3 := ⟨RX0, TX0, 11, rfl, inX0, by decide, gx_mem 129 (by decide +kernel) (by decide +kernel)⟩
theorem kf_RX0_24 : gx_Fld RX0 24 0 4 := ⟨RX0, TX0, 11, rfl, inX0, by decide, gx_mem 134 (by decide +kernel) (by decide +kernel)⟩
theorem kf_RX0_28 : gx_Fld RX0 28 0 5 := ⟨RX0, TX0, 11, rfl, inX0, by decide, gx_mem 137 (by decide +kernel) (by decide +kernel)⟩
theorem kf_RX0_31 : gx_Fld RX0 31 0 6 := ⟨RX0, TX0, 11, rfl, inX0, by decide, gx_mem 142 (by decide +kernel) (by decide +kernel)⟩
theorem kf_RX0_34 : gx_Fld RX0 34 0 7 := ⟨RX0, TX0, 11, rfl, inX0, by decide, gx_mem 146 (by decide +kernel) (by decide +kernel)⟩
theorem kf_RX0_37 : gx_Fld RX0 37 0 8 := ⟨RX0, TX0, 11, rfl, inX0, by decide, gx_mem 149 (by decide +kernel) (by decide +kernel)⟩
theorem kf_RX0_40 : gx_Fld RX0 40 0 9 := ⟨RX0, TX0, 11, rfl, inX0, by decide, gx_mem 152 (by decide +kernel) (by decide +kernel)⟩
theorem kf_RX0_43 : gx_Fld RX0 43 0 10 := ⟨RX0, TX0, 11, rfl, inX0, by decide, gx_mem 157 (by decide +kernel) (by decide +kernel)⟩
theorem kt_X0_isHome : gx_Mt yX0_isHome cX0_isHome 2 (some .boolean) 1 := ⟨gx_mem 590 (by decide +kernel) (by decide +kernel), gx_mem 80 (by decide +kernel) (by decide +kernel), by decide +kernel, by decide⟩
theorem kc_RX0_46 : gx_MV RX0 46 yX0_isHome cX0_isHome 2 (some .boolean) 1 := ⟨kt_X0_isHome, gx_mem 675 (by decide +kernel) (by decide +kernel), gx_mem 588 (by decide +kernel) (by decide +kernel), gx_mem 589 (by decide +kernel) (by decide +kernel)⟩
theorem kt_X0_linkOn : gx_Mt yX0_linkOn cX0_linkOn 3 (some .int) 1 := ⟨gx_mem 436 (by decide +kernel) (by decide +kernel), gx_mem 80 (by decide +kernel) (by decide +kernel), by decide +kernel, by decide⟩
theorem kc_RX0_85 : gx_MV RX0 85 yX0_linkOn cX0_linkOn 3 (some .int) 1 := ⟨kt_X0_linkOn, gx_mem 615 (by decide +kernel) (by decide +kernel), gx_mem 434 (by decide +kernel) (by decide +kernel), gx_mem 435 (by decide +kernel) (by decide +kernel)⟩
theorem kt_J9_max_7cf53 : gx_Mt yJ9_max_7cf53 cJ9_max_7cf53 2 (some .int) 2 := ⟨gx_mem 195 (by decide +kernel) (by decide +kernel), gx_mem 82 (by decide +kernel) (by decide +kernel), by decide +kernel, by decide⟩
theorem kc_RX4_7 : gx_MS RX4 7 yJ9_max_7cf53 cJ9_max_7cf53 2 (some .int) 2 := ⟨kt_J9_max_7cf53, gx_mem 623 (by decide +kernel) (by decide +kernel), gx_mem 194 (by decide +kernel) (by decide +kernel)⟩
theorem kt_J9_min_7cf53 : gx_Mt yJ9_min_7cf53 cJ9_min_7cf53 2 (some .int) 2 := ⟨gx_mem 626 (by decide +kernel) (by decide +kernel), gx_mem 82 (by decide +kernel) (by decide +kernel), by decide +kernel, by decide⟩
theorem kc_RX4_13 : gx_MS RX4 13 yJ9_min_7cf53 cJ9_min_7cf53 2 (some .int) 2 := ⟨kt_J9_min_7cf53, gx_mem 624 (by decide +kernel) (by decide +kernel), gx_mem 625 (by decide +kernel) (by decide +kernel)⟩
theorem kt_X4_square : gx_Mt yX4_square cX4_square 6 (some .int) 6 := ⟨gx_mem 622 (by decide +kernel) (by decide +kernel), gx_mem 94 (by decide +kernel) (by decide +kernel), by decide +kernel, by decide⟩
theorem kc_RX0_89 : gx_MS RX0 89 yX4_square cX4_square 6 (some .int) 6 := ⟨kt_X4_square, gx_mem 620 (by decide +kernel) (by decide +kernel), gx_mem 621 (by decide +kernel) (by decide +kernel)⟩
theorem kt_X6_timidly : gx_Mt yX6_timidly cX6_timidly 1 (some .int) 1 := ⟨gx_mem 604 (by decide +kernel) (by decide +kernel), gx_mem 93 (by decide +kernel) (by decide +kernel), by decide +kernel, by decide⟩
theorem kc_RX6_7 : gx_MS RX6 7 yX6_timidly cX6_timidly 1 (some .int) 1 := ⟨kt_X6_timidly, gx_mem 602 (by decide +kernel) (by decide +kernel), gx_mem 603 (by decide +kernel) (by decide +kernel)⟩
theorem kt_X6_plain : gx_Mt yX6_plain cX6_plain 3 (some .int) 3 := ⟨gx_mem 607 (by decide +kernel) (by decide +kernel), gx_mem 93 (by decide +kernel) (by decide +kernel), by decide +kernel, by decide⟩
theorem kc_RX6_13 : gx_MS RX6 13 yX6_plain cX6_plain 3 (some .int) 3 := ⟨kt_X6_plain, gx_mem 605 (by decide +kernel) (by decide +kernel), gx_mem 606 (by decide +kernel) (by decide +kernel)⟩
theorem kt_X6_cheated : gx_Mt yX6_cheated cX6_cheated 1 (some .int) 1 := ⟨gx_mem 610 (by decide +kernel) (by decide +kernel), gx_mem 93 (by decide +kernel) (by decide +kernel), by decide +kernel, by decide⟩
theorem kc_RX6_17 : gx_MS RX6 17 yX6_cheated cX6_cheated 1 (some .int) 1 := ⟨kt_X6_cheated, gx_mem 608 (by decide +kernel) (by decide +kernel), gx_mem 609 (by decide +kernel) (by decide +kernel)⟩
theorem kt_X6_square : gx_Mt yX6_square cX6_square 4 (some .int) 4 := ⟨gx_mem 601 (by decide +kernel) (by decide +kernel), gx_mem 93 (by decide +kernel) (by decide +kernel), by decide +kernel, by decide⟩
theorem kc_RX0_50 : gx_MS RX0 50 yX6_square cX6_square 4 (some .int) 4 := ⟨kt_X6_square, gx_mem 599 (by decide +kernel) (by decide +kernel), gx_mem 600 (by decide +kernel) (by decide +kernel)⟩
theorem kt_X0_linkMet : gx_Mt yX0_linkMet cX0_linkMet 3 (some .int) 2 := ⟨gx_mem 614 (by decide +kernel) (by decide +kernel), gx_mem 80 (by decide +kernel) (by decide +kernel), by decide +kernel, by decide⟩
theorem kc_RX0_55 : gx_MV RX0 55 yX0_linkMet cX0_linkMet 3 (some .int) 2 := ⟨kt_X0_linkMet, gx_mem 611 (by decide +kernel) (by decide +kernel), gx_mem 613 (by decide +kernel) (by decide +kernel), gx_mem 15 (by decide +kernel) (by decide +kernel)⟩
theorem kt_X0_leadOf : gx_Mt yX0_leadOf cX0_leadOf 3 (some .int) 2 := ⟨gx_mem 619 (by decide +kernel) (by decide +kernel), gx_mem 80 (by decide +kernel) (by decide +kernel), by decide +kernel, by decide⟩
theorem kc_RX0_59 : gx_MV RX0 59 yX0_leadOf cX0_leadOf 3 (some .int) 2 := ⟨kt_X0_leadOf, gx_mem 616 (by decide +kernel) (by decide +kernel), gx_mem 618 (by decide +kernel) (by decide +kernel), gx_mem 16 (by decide +kernel) (by decide +kernel)⟩
theorem kp_RX0_78 : gx_FldP RX0 78 6 0 false .int := ⟨RX8, TX8, 5, rfl, inX8, by decide, gx_mem 204 (by decide +kernel) (by decide +kernel), ⟨tyX8, tyX8_ok⟩, nmX8, rfl, by decide +kernel, fun q => by cases q⟩
theorem kp_RX0_81 : gx_FldP RX0 81 6 1 false .int := ⟨RX8, TX8, 5, rfl, inX8, by decide, gx_mem 206 (by decide +kernel) (by decide +kernel), ⟨tyX8, tyX8_ok⟩, nmX8, rfl, by decide +kernel, fun q => by cases q⟩
theorem kp_RX0_83 : gx_FldP RX0 83 6 2 false .int := ⟨RX8, TX8, 5, rfl, inX8, by decide, gx_mem 208 (by decide +kernel) (by decide +kernel), ⟨tyX8, tyX8_ok⟩, nmX8, rfl, by decide +kernel, fun q => by cases q⟩
theorem kp_RX0_66 : gx_FldP RX0 66 6 3 false .int := ⟨RX8, TX8, 5, rfl, inX8, by decide, gx_mem 210 (by decide +kernel) (by decide +kernel), ⟨tyX8, tyX8_ok⟩, nmX8, rfl, by decide +kernel, fun q => by cases q⟩
theorem kt_X0_remember : gx_Mt yX0_remember cX0_remember 3 none 2 := ⟨gx_mem 598 (by decide +kernel) (by decide +kernel), gx_mem 80 (by decide +kernel) (by decide +kernel), by decide +kernel, by decide⟩
theorem kc_RX0_62 : gx_MV RX0 62 yX0_remember cX0_remember 3 none 2 := ⟨kt_X0_remember, gx_mem 595 (by decide +kernel) (by decide +kernel), gx_mem 596 (by decide +kernel) (by decide +kernel), gx_mem 597 (by decide +kernel) (by decide +kernel)⟩
theorem kp_RX0_71 : gx_FldP RX0 71 6 4 false .int := ⟨RX8, TX8, 5, rfl, inX8, by decide, gx_mem 212 (by decide +kernel) (by decide +kernel), ⟨tyX8, tyX8_ok⟩, nmX8, rfl, by decide +kernel, fun q => by cases q⟩
theorem kc_RX0_73 : gx_MS RX0 73 yJ9_min_7cf53 cJ9_min_7cf53 2 (some .int) 2 := ⟨kt_J9_min_7cf53, gx_mem 627 (by decide +kernel) (by decide +kernel), gx_mem 625 (by decide +kernel) (by decide +kernel)⟩
theorem kf_RX0_78 : gx_Fld RX0 78 6 0 := ⟨RX8, TX8, 5, rfl, inX8, by decide, gx_mem 204 (by decide +kernel) (by decide +kernel)⟩
theorem kf_RX0_81 : gx_Fld RX0 81 6 1 := ⟨RX8, TX8, 5, rfl, inX8, by decide, gx_mem 206 (by decide +kernel) (by decide +kernel)⟩
theorem kf_RX0_83 : gx_Fld RX0 83 6 2 := ⟨RX8, TX8, 5, rfl, inX8, by decide, gx_mem 208 (by decide +kernel) (by decide +kernel)⟩
theorem kf_RX0_66 : gx_Fld RX0 66 6 3 := ⟨RX8, TX8, 5, rfl, inX8, by decide, gx_mem 210 (by decide +kernel) (by decide +kernel)⟩
theorem kf_RX0_71 : gx_Fld RX0 71 6 4 := ⟨RX8, TX8, 5, rfl, inX8, by decide, gx_mem 212 (by decide +kernel) (by decide +kernel)⟩
theorem kk_RX8_3 : Cond.methodLink RX8 3 objectInit ∈ gx_tbl := gx_mem 202 (by decide +kernel) (by decide +kernel)
theorem kp_RX8_9 : gx_FldP RX8 9 6 0 false .int := ⟨RX8, TX8, 5, rfl, inX8, by decide, gx_mem 203 (by decide +kernel) (by decide +kernel), ⟨tyX8, tyX8_ok⟩, nmX8, rfl, by decide +kernel, fun q => by cases q⟩
theorem kp_RX8_15 : gx_FldP RX8 15 6 1 false .int := ⟨RX8, TX8, 5, rfl, inX8, by decide, gx_mem 205 (by decide +kernel) (by decide +kernel), ⟨tyX8, tyX8_ok⟩, nmX8, rfl, by decide +kernel, fun q => by cases q⟩
theorem kp_RX8_18 : gx_FldP RX8 18 6 2 false .int := ⟨RX8, TX8, 5, rfl, inX8, by decide, gx_mem 207 (by decide +kernel) (by decide +kernel), ⟨tyX8, tyX8_ok⟩, nmX8, rfl, by decide +kernel, fun q => by cases q⟩
theorem kp_RX8_21 : gx_FldP RX8 21 6 3 false .int := ⟨RX8, TX8, 5, rfl, inX8, by decide, gx_mem 209 (by decide +kernel) (by decide +kernel), ⟨tyX8, tyX8_ok⟩, nmX8, rfl, by decide +kernel, fun q => by cases q⟩
theorem kp_RX8_24 : gx_FldP RX8 24 6 4 false .int := ⟨RX8, TX8, 5, rfl, inX8, by decide, gx_mem 211 (by decide +kernel) (by decide +kernel), ⟨tyX8, tyX8_ok⟩, nmX8, rfl, by decide +kernel, fun q => by cases q⟩
theorem kc_RX3_23 : gx_MS RX3 23 yJ9_max_7cf53 cJ9_max_7cf53 2 (some .int) 2 := ⟨kt_J9_max_7cf53, gx_mem 193 (by decide +kernel) (by decide +kernel), gx_mem 194 (by decide +kernel) (by decide +kernel)⟩
theorem kk_RX3_29 : Cond.classLink RX3 29 RX8 ∈ gx_tbl := gx_mem 196 (by decide +kernel) (by decide +kernel)
theorem kn_RX3_29 : gx_Cls RX3 29 6 5 [.int 0, .int 0, .int 0, .int 0, .int 0] := ⟨RX8, TX8, tyX8, rfl, inX8, tyX8_ok, gx_mem 196 (by decide +kernel) (by decide +kernel), gx_mem 198 (by decide +kernel) (by decide +kernel), gx_mem 83 (by decide +kernel) (by decide +kernel), by decide +kernel⟩
theorem kt_X8_init : gx_Mt yX8_init cX8_init 1 none 0 := ⟨gx_mem 201 (by decide +kernel) (by decide +kernel), gx_mem 83 (by decide +kernel) (by decide +kernel), by decide +kernel, by decide⟩
theorem kc_RX3_31 : gx_MIN RX3 31 yX8_init cX8_init 1 0 := ⟨kt_X8_init, by decide +kernel, gx_mem 200 (by decide +kernel) (by decide +kernel), rfl⟩
theorem kk_RX3_3 : Cond.methodLink RX3 3 objectInit ∈ gx_tbl := gx_mem 189 (by decide +kernel) (by decide +kernel)
theorem kp_RX3_9 : gx_FldP RX3 9 3 0 false .int := ⟨RX3, TX3, 2, rfl, inX3, by decide, gx_mem 224 (by decide +kernel) (by decide +kernel), ⟨tyX3, tyX3_ok⟩, nmX3, rfl, by decide +kernel, fun q => by cases q⟩
theorem kt_X3_manySteps : gx_Mt yX3_manySteps cX3_manySteps 3 (some (.array (.object "SnakeLadders$Step"))) 1 := ⟨gx_mem 192 (by decide +kernel) (by decide +kernel), gx_mem 81 (by decide +kernel) (by decide +kernel), by decide +kernel, by decide⟩
theorem kc_RX3_15 : gx_MS RX3 15 yX3_manySteps cX3_manySteps 3 (some (.array (.object "SnakeLadders$Step"))) 1 := ⟨kt_X3_manySteps, gx_mem 190 (by decide +kernel) (by decide +kernel), gx_mem 191 (by decide +kernel) (by decide +kernel)⟩
theorem kp_RX3_19 : gx_FldP RX3 19 3 1 true (.array (.object "SnakeLadders$Step")) := ⟨RX3, TX3, 2, rfl, inX3, by decide, gx_mem 226 (by decide +kernel) (by decide +kernel), ⟨tyX3, tyX3_ok⟩, nmX3, rfl, by decide +kernel, fun _ => rfl⟩
theorem kk_RX7_3 : Cond.methodLink RX7 3 objectInit ∈ gx_tbl := gx_mem 237 (by decide +kernel) (by decide +kernel)
theorem kp_RX7_9 : gx_FldP RX7 9 5 0 false .int := ⟨RX7, TX7, 5, rfl, inX7, by decide, gx_mem 238 (by decide +kernel) (by decide +kernel), ⟨tyX7, tyX7_ok⟩, nmX7, rfl, by decide +kernel, fun q => by cases q⟩
theorem kp_RX7_15 : gx_FldP RX7 15 5 1 true (.array .int) := ⟨RX7, TX7, 5, rfl, inX7, by decide, gx_mem 241 (by decide +kernel) (by decide +kernel), ⟨tyX7, tyX7_ok⟩, nmX7, rfl, by decide +kernel, fun _ => rfl⟩
theorem kp_RX7_19 : gx_FldP RX7 19 5 2 true (.array .int) := ⟨RX7, TX7, 5, rfl, inX7, by decide, gx_mem 243 (by decide +kernel) (by decide +kernel), ⟨tyX7, tyX7_ok⟩, nmX7, rfl, by decide +kernel, fun _ => rfl⟩
theorem kp_RX7_22 : gx_FldP RX7 22 5 3 true (.array .int) := ⟨RX7, TX7, 5, rfl, inX7, by decide, gx_mem 245 (by decide +kernel) (by decide +kernel), ⟨tyX7, tyX7_ok⟩, nmX7, rfl, by decide +kernel, fun _ => rfl⟩
theorem kp_RX7_25 : gx_FldP RX7 25 5 4 true (.array .int) := ⟨RX7, TX7, 5, rfl, inX7, by decide, gx_mem 247 (by decide +kernel) (by decide +kernel), ⟨tyX7, tyX7_ok⟩, nmX7, rfl, by decide +kernel, fun _ => rfl⟩
theorem kk_RX1_1 : Cond.methodLink RX1 1 objectInit ∈ gx_tbl := gx_mem 108 (by decide +kernel) (by decide +kernel)
theorem kn_RX1_7 : gx_Cls RX1 7 0 11 [.int 0, .int 0, .int 0, .int 0, .null, .null, .null, .null, .null, .null, .null] := ⟨RX0, TX0, tyX0, rfl, inX0, tyX0_ok, gx_mem 109 (by decide +kernel) (by decide +kernel), gx_mem 110 (by decide +kernel) (by decide +kernel), gx_mem 80 (by decide +kernel) (by decide +kernel), by decide +kernel⟩
theorem kt_X0_init : gx_Mt yX0_init cX0_init 1 none 0 := ⟨gx_mem 113 (by decide +kernel) (by decide +kernel), gx_mem 80 (by decide +kernel) (by decide +kernel), by decide +kernel, by decide⟩
theorem kc_RX1_9 : gx_MIN RX1 9 yX0_init cX0_init 1 0 := ⟨kt_X0_init, by decide +kernel, gx_mem 112 (by decide +kernel) (by decide +kernel), rfl⟩
theorem kp_RX1_10 : gx_FldP RX1 10 1 0 true (.object "SnakeLadders$Board") := ⟨RX1, TX1, 4, rfl, inX1, by decide, gx_mem 260 (by decide +kernel) (by decide +kernel), ⟨tyX1, tyX1_ok⟩, nmX1, rfl, by decide +kernel, fun _ => rfl⟩
theorem kn_RX1_16 : gx_Cls RX1 16 3 2 [.int 0, .null] := ⟨RX3, TX3, tyX3, rfl, inX3, tyX3_ok, gx_mem 184 (by decide +kernel) (by decide +kernel), gx_mem 185 (by decide +kernel) (by decide +kernel), gx_mem 81 (by decide +kernel) (by decide +kernel), by decide +kernel⟩
theorem kt_X3_init : gx_Mt yX3_init cX3_init 1 none 0 := ⟨gx_mem 188 (by decide +kernel) (by decide +kernel), gx_mem 81 (by decide +kernel) (by decide +kernel), by decide +kernel, by decide⟩
theorem kc_RX1_18 : gx_MIN RX1 18 yX3_init cX3_init 1 0 := ⟨kt_X3_init, by decide +kernel, gx_mem 187 (by decide +kernel) (by decide +kernel), rfl⟩
theorem kp_RX1_19 : gx_FldP RX1 19 1 1 true (.object "SnakeLadders$History") := ⟨RX1, TX1, 4, rfl, inX1, by decide, gx_mem 262 (by decide +kernel) (by decide +kernel), ⟨tyX1, tyX1_ok⟩, nmX1, rfl, by decide +kernel, fun _ => rfl⟩
theorem kn_RX1_23 : gx_Cls RX1 23 5 5 [.int 0, .null, .null, .null, .null] := ⟨RX7, TX7, tyX7, rfl, inX7, tyX7_ok, gx_mem 232 (by decide +kernel) (by decide +kernel), gx_mem 233 (by decide +kernel) (by decide +kernel), gx_mem 84 (by decide +kernel) (by decide +kernel), by decide +kernel⟩
theorem kt_X7_init : gx_Mt yX7_init cX7_init 1 none 0 := ⟨gx_mem 236 (by decide +kernel) (by decide +kernel), gx_mem 84 (by decide +kernel) (by decide +kernel), by decide +kernel, by decide⟩
theorem kc_RX1_25 : gx_MIN RX1 25 yX7_init cX7_init 1 0 := ⟨kt_X7_init, by decide +kernel, gx_mem 235 (by decide +kernel) (by decide +kernel), rfl⟩
theorem kp_RX1_26 : gx_FldP RX1 26 1 2 true (.object "SnakeLadders$Seen") := ⟨RX1, TX1, 4, rfl, inX1, by decide, gx_mem 264 (by decide +kernel) (by decide +kernel), ⟨tyX1, tyX1_ok⟩, nmX1, rfl, by decide +kernel, fun _ => rfl⟩
theorem kp_RX1_30 : gx_FldP RX1 30 1 3 true (.object "SnakeLadders$Seen") := ⟨RX1, TX1, 4, rfl, inX1, by decide, gx_mem 266 (by decide +kernel) (by decide +kernel), ⟨tyX1, tyX1_ok⟩, nmX1, rfl, by decide +kernel, fun _ => rfl⟩
theorem kf_RX7_9 : gx_Fld RX7 9 5 0 := ⟨RX7, TX7, 5, rfl, inX7, by decide, gx_mem 238 (by decide +kernel) (by decide +kernel)⟩
theorem kf_RX1_19 : gx_Fld RX1 19 1 1 := ⟨RX1, TX1, 4, rfl, inX1, by decide, gx_mem 262 (by decide +kernel) (by decide +kernel)⟩
theorem kt_X3_empty : gx_Mt yX3_empty cX3_empty 1 none 0 := ⟨gx_mem 415 (by decide +kernel) (by decide +kernel), gx_mem 81 (by decide +kernel) (by decide +kernel), by decide +kernel, by decide⟩
theorem kc_RX1_33 : gx_MV RX1 33 yX3_empty cX3_empty 1 none 0 := ⟨kt_X3_empty, gx_mem 412 (by decide +kernel) (by decide +kernel), gx_mem 413 (by decide +kernel) (by decide +kernel), gx_mem 414 (by decide +kernel) (by decide +kernel)⟩
theorem kf_RX1_26 : gx_Fld RX1 26 1 2 := ⟨RX1, TX1, 4, rfl, inX1, by decide, gx_mem 264 (by decide +kernel) (by decide +kernel)⟩
theorem kt_X7_empty : gx_Mt yX7_empty cX7_empty 2 (some .int) 0 := ⟨gx_mem 419 (by decide +kernel) (by decide +kernel), gx_mem 84 (by decide +kernel) (by decide +kernel), by decide +kernel, by decide⟩
theorem kc_RX1_36 : gx_MV RX1 36 yX7_empty cX7_empty 2 (some .int) 0 := ⟨kt_X7_empty, gx_mem 416 (by decide +kernel) (by decide +kernel), gx_mem 417 (by decide +kernel) (by decide +kernel), gx_mem 418 (by decide +kernel) (by decide +kernel)⟩
theorem kf_RX1_30 : gx_Fld RX1 30 1 3 := ⟨RX1, TX1, 4, rfl, inX1, by decide, gx_mem 266 (by decide +kernel) (by decide +kernel)⟩
theorem kf_RX8_9 : gx_Fld RX8 9 6 0 := ⟨RX8, TX8, 5, rfl, inX8, by decide, gx_mem 203 (by decide +kernel) (by decide +kernel)⟩
theorem kf_RX8_15 : gx_Fld RX8 15 6 1 := ⟨RX8, TX8, 5, rfl, inX8, by decide, gx_mem 205 (by decide +kernel) (by decide +kernel)⟩
theorem kf_RX8_18 : gx_Fld RX8 18 6 2 := ⟨RX8, TX8, 5, rfl, inX8, by decide, gx_mem 207 (by decide +kernel) (by decide +kernel)⟩
theorem kf_RX8_21 : gx_Fld RX8 21 6 3 := ⟨RX8, TX8, 5, rfl, inX8, by decide, gx_mem 209 (by decide +kernel) (by decide +kernel)⟩
theorem kf_RX8_24 : gx_Fld RX8 24 6 4 := ⟨RX8, TX8, 5, rfl, inX8, by decide, gx_mem 211 (by decide +kernel) (by decide +kernel)⟩
theorem kf_RX3_9 : gx_Fld RX3 9 3 0 := ⟨RX3, TX3, 2, rfl, inX3, by decide, gx_mem 224 (by decide +kernel) (by decide +kernel)⟩
theorem kf_RX3_19 : gx_Fld RX3 19 3 1 := ⟨RX3, TX3, 2, rfl, inX3, by decide, gx_mem 226 (by decide +kernel) (by decide +kernel)⟩
theorem kt_X8_copy : gx_Mt yX8_copy cX8_copy 2 none 1 := ⟨gx_mem 953 (by decide +kernel) (by decide +kernel), gx_mem 83 (by decide +kernel) (by decide +kernel), by decide +kernel, by decide⟩
theorem kc_RX3_41 : gx_MV RX3 41 yX8_copy cX8_copy 2 none 1 := ⟨kt_X8_copy, gx_mem 950 (by decide +kernel) (by decide +kernel), gx_mem 951 (by decide +kernel) (by decide +kernel), gx_mem 952 (by decide +kernel) (by decide +kernel)⟩
theorem kf_RX7_15 : gx_Fld RX7 15 5 1 := ⟨RX7, TX7, 5, rfl, inX7, by decide, gx_mem 241 (by decide +kernel) (by decide +kernel)⟩
theorem kf_RX7_19 : gx_Fld RX7 19 5 2 := ⟨RX7, TX7, 5, rfl, inX7, by decide, gx_mem 243 (by decide +kernel) (by decide +kernel)⟩
theorem kf_RX7_22 : gx_Fld RX7 22 5 3 := ⟨RX7, TX7, 5, rfl, inX7, by decide, gx_mem 245 (by decide +kernel) (by decide +kernel)⟩
theorem kf_RX7_25 : gx_Fld RX7 25 5 4 := ⟨RX7, TX7, 5, rfl, inX7, by decide, gx_mem 247 (by decide +kernel) (by decide +kernel)⟩
theorem kf_RX1_10 : gx_Fld RX1 10 1 0 := ⟨RX1, TX1, 4, rfl, inX1, by decide, gx_mem 260 (by decide +kernel) (by decide +kernel)⟩
theorem kt_X0_copy : gx_Mt yX0_copy cX0_copy 3 none 1 := ⟨gx_mem 635 (by decide +kernel) (by decide +kernel), gx_mem 80 (by decide +kernel) (by decide +kernel), by decide +kernel, by decide⟩
theorem kc_RX1_39 : gx_MV RX1 39 yX0_copy cX0_copy 3 none 1 := ⟨kt_X0_copy, gx_mem 945 (by decide +kernel) (by decide +kernel), gx_mem 633 (by decide +kernel) (by decide +kernel), gx_mem 634 (by decide +kernel) (by decide +kernel)⟩
theorem kt_X3_copy : gx_Mt yX3_copy cX3_copy 3 none 1 := ⟨gx_mem 949 (by decide +kernel) (by decide +kernel), gx_mem 81 (by decide +kernel) (by decide +kernel), by decide +kernel, by decide⟩
theorem kc_RX1_43 : gx_MV RX1 43 yX3_copy cX3_copy 3 none 1 := ⟨kt_X3_copy, gx_mem 946 (by decide +kernel) (by decide +kernel), gx_mem 947 (by decide +kernel) (by decide +kernel), gx_mem 948 (by decide +kernel) (by decide +kernel)⟩
theorem kt_X7_copy : gx_Mt yX7_copy cX7_copy 3 none 1 := ⟨gx_mem 957 (by decide +kernel) (by decide +kernel), gx_mem 84 (by decide +kernel) (by decide +kernel), by decide +kernel, by decide⟩
theorem kc_RX1_46 : gx_MV RX1 46 yX7_copy cX7_copy 3 none 1 := ⟨kt_X7_copy, gx_mem 954 (by decide +kernel) (by decide +kernel), gx_mem 955 (by decide +kernel) (by decide +kernel), gx_mem 956 (by decide +kernel) (by decide +kernel)⟩
theorem kk_RX7_28 : Cond.constantLong RX7 28 31 ∈ gx_tbl := gx_mem 997 (by decide +kernel) (by decide +kernel)
theorem kf_RX1_49 : gx_Fld RX1 49 0 2 := ⟨RX0, TX0, 11, rfl, inX0, by decide, gx_mem 125 (by decide +kernel) (by decide +kernel)⟩
theorem kk_RX1_53 : Cond.constantLong RX1 53 31 ∈ gx_tbl := gx_mem 992 (by decide +kernel) (by decide +kernel)
theorem kf_RX1_55 : gx_Fld RX1 55 0 4 := ⟨RX0, TX0, 11, rfl, inX0, by decide, gx_mem 135 (by decide +kernel) (by decide +kernel)⟩
theorem kf_RX1_59 : gx_Fld RX1 59 0 5 := ⟨RX0, TX0, 11, rfl, inX0, by decide, gx_mem 139 (by decide +kernel) (by decide +kernel)⟩
theorem kf_RX1_62 : gx_Fld RX1 62 0 6 := ⟨RX0, TX0, 11, rfl, inX0, by decide, gx_mem 144 (by decide +kernel) (by decide +kernel)⟩
theorem kf_RX1_65 : gx_Fld RX1 65 0 7 := ⟨RX0, TX0, 11, rfl, inX0, by decide, gx_mem 147 (by decide +kernel) (by decide +kernel)⟩
theorem kf_RX1_68 : gx_Fld RX1 68 0 3 := ⟨RX0, TX0, 11, rfl, inX0, by decide, gx_mem 131 (by decide +kernel) (by decide +kernel)⟩
theorem kt_X7_digestOn : gx_Mt yX7_digestOn cX7_digestOn 6 (some .long) 1 := ⟨gx_mem 996 (by decide +kernel) (by decide +kernel), gx_mem 84 (by decide +kernel) (by decide +kernel), by decide +kernel, by decide⟩
theorem kc_RX1_80 : gx_MV RX1 80 yX7_digestOn cX7_digestOn 6 (some .long) 1 := ⟨kt_X7_digestOn, gx_mem 993 (by decide +kernel) (by decide +kernel), gx_mem 994 (by decide +kernel) (by decide +kernel), gx_mem 995 (by decide +kernel) (by decide +kernel)⟩
theorem kf_RX1_71 : gx_Fld RX1 71 0 8 := ⟨RX0, TX0, 11, rfl, inX0, by decide, gx_mem 150 (by decide +kernel) (by decide +kernel)⟩
theorem kf_RX1_74 : gx_Fld RX1 74 0 9 := ⟨RX0, TX0, 11, rfl, inX0, by decide, gx_mem 153 (by decide +kernel) (by decide +kernel)⟩
theorem kf_RX1_77 : gx_Fld RX1 77 0 10 := ⟨RX0, TX0, 11, rfl, inX0, by decide, gx_mem 158 (by decide +kernel) (by decide +kernel)⟩
theorem kk_RX2_3 : Cond.methodLink RX2 3 objectInit ∈ gx_tbl := gx_mem 358 (by decide +kernel) (by decide +kernel)
theorem kp_RX2_9 : gx_FldP RX2 9 2 0 true (.array .int) := ⟨RX2, TX2, 1, rfl, inX2, by decide, gx_mem 359 (by decide +kernel) (by decide +kernel), ⟨tyX2, tyX2_ok⟩, nmX2, rfl, by decide +kernel, fun _ => rfl⟩
theorem kf_RX2_41 : gx_Fld RX2 41 0 5 := ⟨RX0, TX0, 11, rfl, inX0, by decide, gx_mem 138 (by decide +kernel) (by decide +kernel)⟩
theorem kf_RX2_46 : gx_Fld RX2 46 0 6 := ⟨RX0, TX0, 11, rfl, inX0, by decide, gx_mem 143 (by decide +kernel) (by decide +kernel)⟩
theorem kf_RX2_49 : gx_Fld RX2 49 0 0 := ⟨RX0, TX0, 11, rfl, inX0, by decide, gx_mem 116 (by decide +kernel) (by decide +kernel)⟩
theorem kc_RX2_52 : gx_MS RX2 52 yX4_square cX4_square 6 (some .int) 6 := ⟨kt_X4_square, gx_mem 843 (by decide +kernel) (by decide +kernel), gx_mem 621 (by decide +kernel) (by decide +kernel)⟩
theorem kf_RX2_19 : gx_Fld RX2 19 5 0 := ⟨RX7, TX7, 5, rfl, inX7, by decide, gx_mem 239 (by decide +kernel) (by decide +kernel)⟩
theorem kf_RX2_25 : gx_Fld RX2 25 5 1 := ⟨RX7, TX7, 5, rfl, inX7, by decide, gx_mem 242 (by decide +kernel) (by decide +kernel)⟩
theorem kf_RX2_28 : gx_Fld RX2 28 5 4 := ⟨RX7, TX7, 5, rfl, inX7, by decide, gx_mem 248 (by decide +kernel) (by decide +kernel)⟩
theorem kf_RX2_31 : gx_Fld RX2 31 5 2 := ⟨RX7, TX7, 5, rfl, inX7, by decide, gx_mem 244 (by decide +kernel) (by decide +kernel)⟩
theorem kf_RX2_34 : gx_Fld RX2 34 5 3 := ⟨RX7, TX7, 5, rfl, inX7, by decide, gx_mem 246 (by decide +kernel) (by decide +kernel)⟩
theorem kt_X2_lead : gx_Mt yX2_lead cX2_lead 5 (some .int) 5 := ⟨gx_mem 842 (by decide +kernel) (by decide +kernel), gx_mem 87 (by decide +kernel) (by decide +kernel), by decide +kernel, by decide⟩
theorem kc_RX2_37 : gx_MS RX2 37 yX2_lead cX2_lead 5 (some .int) 5 := ⟨kt_X2_lead, gx_mem 840 (by decide +kernel) (by decide +kernel), gx_mem 841 (by decide +kernel) (by decide +kernel)⟩
theorem kt_X2_fitsNotes : gx_Mt yX2_fitsNotes cX2_fitsNotes 6 (some .boolean) 4 := ⟨gx_mem 839 (by decide +kernel) (by decide +kernel), gx_mem 87 (by decide +kernel) (by decide +kernel), by decide +kernel, by decide⟩
theorem kc_RX2_15 : gx_MV RX2 15 yX2_fitsNotes cX2_fitsNotes 6 (some .boolean) 4 := ⟨kt_X2_fitsNotes, gx_mem 836 (by decide +kernel) (by decide +kernel), gx_mem 838 (by decide +kernel) (by decide +kernel), gx_mem 25 (by decide +kernel) (by decide +kernel)⟩
theorem kf_RX2_9 : gx_Fld RX2 9 2 0 := ⟨RX2, TX2, 1, rfl, inX2, by decide, gx_mem 359 (by decide +kernel) (by decide +kernel)⟩
theorem kt_X2_alikeTo : gx_Mt yX2_alikeTo cX2_alikeTo 5 (some .int) 2 := ⟨gx_mem 860 (by decide +kernel) (by decide +kernel), gx_mem 87 (by decide +kernel) (by decide +kernel), by decide +kernel, by decide⟩
theorem kc_RX2_77 : gx_MV RX2 77 yX2_alikeTo cX2_alikeTo 5 (some .int) 2 := ⟨kt_X2_alikeTo, gx_mem 857 (by decide +kernel) (by decide +kernel), gx_mem 859 (by decide +kernel) (by decide +kernel), gx_mem 27 (by decide +kernel) (by decide +kernel)⟩
theorem kc_RX2_81 : gx_MS RX2 81 yJ9_max_7cf53 cJ9_max_7cf53 2 (some .int) 2 := ⟨kt_J9_max_7cf53, gx_mem 861 (by decide +kernel) (by decide +kernel), gx_mem 194 (by decide +kernel) (by decide +kernel)⟩
theorem kt_X2_linkKinds : gx_Mt yX2_linkKinds cX2_linkKinds 6 (some .int) 3 := ⟨gx_mem 835 (by decide +kernel) (by decide +kernel), gx_mem 87 (by decide +kernel) (by decide +kernel), by decide +kernel, by decide⟩
theorem kc_RX2_58 : gx_MV RX2 58 yX2_linkKinds cX2_linkKinds 6 (some .int) 3 := ⟨kt_X2_linkKinds, gx_mem 852 (by decide +kernel) (by decide +kernel), gx_mem 833 (by decide +kernel) (by decide +kernel), gx_mem 834 (by decide +kernel) (by decide +kernel)⟩
theorem kt_X2_mostAlike : gx_Mt yX2_mostAlike cX2_mostAlike 4 (some .int) 1 := ⟨gx_mem 856 (by decide +kernel) (by decide +kernel), gx_mem 87 (by decide +kernel) (by decide +kernel), by decide +kernel, by decide⟩
theorem kc_RX2_62 : gx_MV RX2 62 yX2_mostAlike cX2_mostAlike 4 (some .int) 1 := ⟨kt_X2_mostAlike, gx_mem 853 (by decide +kernel) (by decide +kernel), gx_mem 855 (by decide +kernel) (by decide +kernel), gx_mem 26 (by decide +kernel) (by decide +kernel)⟩
theorem kc_RX2_69 : gx_MS RX2 69 yX6_square cX6_square 4 (some .int) 4 := ⟨kt_X6_square, gx_mem 873 (by decide +kernel) (by decide +kernel), gx_mem 600 (by decide +kernel) (by decide +kernel)⟩
theorem kt_X2_fitsMarks : gx_Mt yX2_fitsMarks cX2_fitsMarks 6 (some .boolean) 4 := ⟨gx_mem 872 (by decide +kernel) (by decide +kernel), gx_mem 87 (by decide +kernel) (by decide +kernel), by decide +kernel, by decide⟩
theorem kc_RX2_66 : gx_MS RX2 66 yX2_fitsMarks cX2_fitsMarks 6 (some .boolean) 4 := ⟨kt_X2_fitsMarks, gx_mem 870 (by decide +kernel) (by decide +kernel), gx_mem 871 (by decide +kernel) (by decide +kernel)⟩
theorem kt_X2_playerKinds : gx_Mt yX2_playerKinds cX2_playerKinds 6 (some .int) 3 := ⟨gx_mem 869 (by decide +kernel) (by decide +kernel), gx_mem 87 (by decide +kernel) (by decide +kernel), by decide +kernel, by decide⟩
theorem kc_RX2_74 : gx_MV RX2 74 yX2_playerKinds cX2_playerKinds 6 (some .int) 3 := ⟨kt_X2_playerKinds, gx_mem 882 (by decide +kernel) (by decide +kernel), gx_mem 867 (by decide +kernel) (by decide +kernel), gx_mem 868 (by decide +kernel) (by decide +kernel)⟩
theorem kt_X3_dropOldest : gx_Mt yX3_dropOldest cX3_dropOldest 3 none 0 := ⟨gx_mem 652 (by decide +kernel) (by decide +kernel), gx_mem 81 (by decide +kernel) (by decide +kernel), by decide +kernel, by decide⟩
theorem kc_RX3_32 : gx_MV RX3 32 yX3_dropOldest cX3_dropOldest 3 none 0 := ⟨kt_X3_dropOldest, gx_mem 649 (by decide +kernel) (by decide +kernel), gx_mem 651 (by decide +kernel) (by decide +kernel), gx_mem 18 (by decide +kernel) (by decide +kernel)⟩
theorem kt_X0_takeBack : gx_Mt yX0_takeBack cX0_takeBack 2 none 1 := ⟨gx_mem 670 (by decide +kernel) (by decide +kernel), gx_mem 80 (by decide +kernel) (by decide +kernel), by decide +kernel, by decide⟩
theorem kc_RX3_35 : gx_MV RX3 35 yX0_takeBack cX0_takeBack 2 none 1 := ⟨kt_X0_takeBack, gx_mem 667 (by decide +kernel) (by decide +kernel), gx_mem 668 (by decide +kernel) (by decide +kernel), gx_mem 669 (by decide +kernel) (by decide +kernel)⟩
theorem kk_RX5_3 : Cond.methodLink RX5 3 objectInit ∈ gx_tbl := gx_mem 322 (by decide +kernel) (by decide +kernel)
theorem kn_RX5_9 : gx_Cls RX5 9 0 11 [.int 0, .int 0, .int 0, .int 0, .null, .null, .null, .null, .null, .null, .null] := ⟨RX0, TX0, tyX0, rfl, inX0, tyX0_ok, gx_mem 323 (by decide +kernel) (by decide +kernel), gx_mem 110 (by decide +kernel) (by decide +kernel), gx_mem 80 (by decide +kernel) (by decide +kernel), by decide +kernel⟩
theorem kc_RX5_11 : gx_MIN RX5 11 yX0_init cX0_init 1 0 := ⟨kt_X0_init, by decide +kernel, gx_mem 112 (by decide +kernel) (by decide +kernel), rfl⟩
theorem kp_RX5_12 : gx_FldP RX5 12 4 0 true (.object "SnakeLadders$Board") := ⟨RX5, TX5, 8, rfl, inX5, by decide, gx_mem 326 (by decide +kernel) (by decide +kernel), ⟨tyX5, tyX5_ok⟩, nmX5, rfl, by decide +kernel, fun _ => rfl⟩
theorem kc_RX5_18 : gx_MS RX5 18 yX3_manySteps cX3_manySteps 3 (some (.array (.object "SnakeLadders$Step"))) 1 := ⟨kt_X3_manySteps, gx_mem 325 (by decide +kernel) (by decide +kernel), gx_mem 191 (by decide +kernel) (by decide +kernel)⟩
theorem kp_RX5_24 : gx_FldP RX5 24 4 1 true (.array (.object "SnakeLadders$Step")) := ⟨RX5, TX5, 8, rfl, inX5, by decide, gx_mem 327 (by decide +kernel) (by decide +kernel), ⟨tyX5, tyX5_ok⟩, nmX5, rfl, by decide +kernel, fun _ => rfl⟩
theorem kp_RX5_28 : gx_FldP RX5 28 4 2 true (.array .int) := ⟨RX5, TX5, 8, rfl, inX5, by decide, gx_mem 328 (by decide +kernel) (by decide +kernel), ⟨tyX5, tyX5_ok⟩, nmX5, rfl, by decide +kernel, fun _ => rfl⟩
theorem kp_RX5_32 : gx_FldP RX5 32 4 3 true (.array .int) := ⟨RX5, TX5, 8, rfl, inX5, by decide, gx_mem 329 (by decide +kernel) (by decide +kernel), ⟨tyX5, tyX5_ok⟩, nmX5, rfl, by decide +kernel, fun _ => rfl⟩
theorem kp_RX5_35 : gx_FldP RX5 35 4 4 true (.array .int) := ⟨RX5, TX5, 8, rfl, inX5, by decide, gx_mem 330 (by decide +kernel) (by decide +kernel), ⟨tyX5, tyX5_ok⟩, nmX5, rfl, by decide +kernel, fun _ => rfl⟩
theorem kp_RX5_38 : gx_FldP RX5 38 4 5 true (.array .int) := ⟨RX5, TX5, 8, rfl, inX5, by decide, gx_mem 331 (by decide +kernel) (by decide +kernel), ⟨tyX5, tyX5_ok⟩, nmX5, rfl, by decide +kernel, fun _ => rfl⟩
theorem kp_RX5_41 : gx_FldP RX5 41 4 6 false .int := ⟨RX5, TX5, 8, rfl, inX5, by decide, gx_mem 332 (by decide +kernel) (by decide +kernel), ⟨tyX5, tyX5_ok⟩, nmX5, rfl, by decide +kernel, fun q => by cases q⟩
theorem kp_RX5_45 : gx_FldP RX5 45 4 7 false .int := ⟨RX5, TX5, 8, rfl, inX5, by decide, gx_mem 334 (by decide +kernel) (by decide +kernel), ⟨tyX5, tyX5_ok⟩, nmX5, rfl, by decide +kernel, fun q => by cases q⟩
theorem kf_RX5_12 : gx_Fld RX5 12 4 0 := ⟨RX5, TX5, 8, rfl, inX5, by decide, gx_mem 326 (by decide +kernel) (by decide +kernel)⟩
theorem kc_RX5_60 : gx_MV RX5 60 yX0_isHome cX0_isHome 2 (some .boolean) 1 := ⟨kt_X0_isHome, gx_mem 712 (by decide +kernel) (by decide +kernel), gx_mem 588 (by decide +kernel) (by decide +kernel), gx_mem 589 (by decide +kernel) (by decide +kernel)⟩
theorem kf_RX5_64 : gx_Fld RX5 64 0 1 := ⟨RX0, TX0, 11, rfl, inX0, by decide, gx_mem 122 (by decide +kernel) (by decide +kernel)⟩
theorem kf_RX5_32 : gx_Fld RX5 32 4 3 := ⟨RX5, TX5, 8, rfl, inX5, by decide, gx_mem 329 (by decide +kernel) (by decide +kernel)⟩
theorem kf_RX5_24 : gx_Fld RX5 24 4 1 := ⟨RX5, TX5, 8, rfl, inX5, by decide, gx_mem 327 (by decide +kernel) (by decide +kernel)⟩
theorem kt_X0_move : gx_Mt yX0_move cX0_move 6 none 3 := ⟨gx_mem 594 (by decide +kernel) (by decide +kernel), gx_mem 80 (by decide +kernel) (by decide +kernel), by decide +kernel, by decide⟩
theorem kc_RX5_67 : gx_MV RX5 67 yX0_move cX0_move 6 none 3 := ⟨kt_X0_move, gx_mem 713 (by decide +kernel) (by decide +kernel), gx_mem 592 (by decide +kernel) (by decide +kernel), gx_mem 593 (by decide +kernel) (by decide +kernel)⟩
theorem kt_X5_findRow : gx_Mt yX5_findRow cX5_findRow 6 (some .boolean) 4 := ⟨gx_mem 711 (by decide +kernel) (by decide +kernel), gx_mem 86 (by decide +kernel) (by decide +kernel), by decide +kernel, by decide⟩
theorem kc_RX5_52 : gx_MS RX5 52 yX5_findRow cX5_findRow 6 (some .boolean) 4 := ⟨kt_X5_findRow, gx_mem 709 (by decide +kernel) (by decide +kernel), gx_mem 710 (by decide +kernel) (by decide +kernel)⟩
theorem kc_RX5_71 : gx_MV RX5 71 yX0_takeBack cX0_takeBack 2 none 1 := ⟨kt_X0_takeBack, gx_mem 714 (by decide +kernel) (by decide +kernel), gx_mem 668 (by decide +kernel) (by decide +kernel), gx_mem 669 (by decide +kernel) (by decide +kernel)⟩
theorem kc_RX5_48 : gx_MV RX5 48 yX0_copy cX0_copy 3 none 1 := ⟨kt_X0_copy, gx_mem 708 (by decide +kernel) (by decide +kernel), gx_mem 633 (by decide +kernel) (by decide +kernel), gx_mem 634 (by decide +kernel) (by decide +kernel)⟩
theorem kt_X10_within : gx_Mt yX10_within cX10_within 3 (some .boolean) 3 := ⟨gx_mem 403 (by decide +kernel) (by decide +kernel), gx_mem 78 (by decide +kernel) (by decide +kernel), by decide +kernel, by decide⟩
theorem kc_RX5_56 : gx_MSN RX5 56 yX10_within cX10_within 3 (some .boolean) 3 := ⟨kt_X10_within, by decide +kernel, gx_mem 402 (by decide +kernel) (by decide +kernel)⟩
theorem kf_RX5_28 : gx_Fld RX5 28 4 2 := ⟨RX5, TX5, 8, rfl, inX5, by decide, gx_mem 328 (by decide +kernel) (by decide +kernel)⟩
theorem kt_X10_power : gx_Mt yX10_power cX10_power 4 (some .int) 2 := ⟨gx_mem 738 (by decide +kernel) (by decide +kernel), gx_mem 78 (by decide +kernel) (by decide +kernel), by decide +kernel, by decide⟩
theorem kc_RX5_107 : gx_MSN RX5 107 yX10_power cX10_power 4 (some .int) 2 := ⟨kt_X10_power, by decide +kernel, gx_mem 737 (by decide +kernel) (by decide +kernel)⟩
theorem kt_X0_landing : gx_Mt yX0_landing cX0_landing 5 (some .int) 2 := ⟨gx_mem 695 (by decide +kernel) (by decide +kernel), gx_mem 80 (by decide +kernel) (by decide +kernel), by decide +kernel, by decide⟩
theorem kc_RX5_103 : gx_MV RX5 103 yX0_landing cX0_landing 5 (some .int) 2 := ⟨kt_X0_landing, gx_mem 742 (by decide +kernel) (by decide +kernel), gx_mem 693 (by decide +kernel) (by decide +kernel), gx_mem 694 (by decide +kernel) (by decide +kernel)⟩
theorem kf_RX5_82 : gx_Fld RX5 82 0 0 := ⟨RX0, TX0, 11, rfl, inX0, by decide, gx_mem 118 (by decide +kernel) (by decide +kernel)⟩
theorem kt_X5_spreadOn : gx_Mt yX5_spreadOn cX5_spreadOn 6 none 4 := ⟨gx_mem 741 (by decide +kernel) (by decide +kernel), gx_mem 86 (by decide +kernel) (by decide +kernel), by decide +kernel, by decide⟩
theorem kc_RX5_99 : gx_MS RX5 99 yX5_spreadOn cX5_spreadOn 6 none 4 := ⟨kt_X5_spreadOn, gx_mem 739 (by decide +kernel) (by decide +kernel), gx_mem 740 (by decide +kernel) (by decide +kernel)⟩
theorem kt_X5_addRows : gx_Mt yX5_addRows cX5_addRows 3 none 2 := ⟨gx_mem 735 (by decide +kernel) (by decide +kernel), gx_mem 86 (by decide +kernel) (by decide +kernel), by decide +kernel, by decide⟩
theorem kc_RX5_95 : gx_MV RX5 95 yX5_addRows cX5_addRows 3 none 2 := ⟨kt_X5_addRows, gx_mem 732 (by decide +kernel) (by decide +kernel), gx_mem 734 (by decide +kernel) (by decide +kernel), gx_mem 22 (by decide +kernel) (by decide +kernel)⟩
theorem kf_RX5_75 : gx_Fld RX5 75 0 9 := ⟨RX0, TX0, 11, rfl, inX0, by decide, gx_mem 154 (by decide +kernel) (by decide +kernel)⟩
theorem kt_X5_spreadFrom : gx_Mt yX5_spreadFrom cX5_spreadFrom 5 none 3 := ⟨gx_mem 731 (by decide +kernel) (by decide +kernel), gx_mem 86 (by decide +kernel) (by decide +kernel), by decide +kernel, by decide⟩
theorem kc_RX5_78 : gx_MV RX5 78 yX5_spreadFrom cX5_spreadFrom 5 none 3 := ⟨kt_X5_spreadFrom, gx_mem 728 (by decide +kernel) (by decide +kernel), gx_mem 730 (by decide +kernel) (by decide +kernel), gx_mem 21 (by decide +kernel) (by decide +kernel)⟩
theorem kt_X5_rowsHome : gx_Mt yX5_rowsHome cX5_rowsHome 1 (some .int) 0 := ⟨gx_mem 746 (by decide +kernel) (by decide +kernel), gx_mem 86 (by decide +kernel) (by decide +kernel), by decide +kernel, by decide⟩
theorem kc_RX5_85 : gx_MV RX5 85 yX5_rowsHome cX5_rowsHome 1 (some .int) 0 := ⟨kt_X5_rowsHome, gx_mem 786 (by decide +kernel) (by decide +kernel), gx_mem 744 (by decide +kernel) (by decide +kernel), gx_mem 745 (by decide +kernel) (by decide +kernel)⟩
theorem kf_RX5_45 : gx_Fld RX5 45 4 7 := ⟨RX5, TX5, 8, rfl, inX5, by decide, gx_mem 334 (by decide +kernel) (by decide +kernel)⟩
theorem kf_RX5_89 : gx_Fld RX5 89 0 2 := ⟨RX0, TX0, 11, rfl, inX0, by decide, gx_mem 128 (by decide +kernel) (by decide +kernel)⟩
theorem kf_RX5_92 : gx_Fld RX5 92 0 5 := ⟨RX0, TX0, 11, rfl, inX0, by decide, gx_mem 140 (by decide +kernel) (by decide +kernel)⟩
theorem kt_X5_rowsAheadOn : gx_Mt yX5_rowsAheadOn cX5_rowsAheadOn 8 (some .int) 5 := ⟨gx_mem 777 (by decide +kernel) (by decide +kernel), gx_mem 86 (by decide +kernel) (by decide +kernel), by decide +kernel, by decide⟩
theorem kc_RX5_110 : gx_MS RX5 110 yX5_rowsAheadOn cX5_rowsAheadOn 8 (some .int) 5 := ⟨kt_X5_rowsAheadOn, gx_mem 775 (by decide +kernel) (by decide +kernel), gx_mem 776 (by decide +kernel) (by decide +kernel)⟩
theorem kc_RX5_128 : gx_MV RX5 128 yX0_remember cX0_remember 3 none 2 := ⟨kt_X0_remember, gx_mem 895 (by decide +kernel) (by decide +kernel), gx_mem 596 (by decide +kernel) (by decide +kernel), gx_mem 597 (by decide +kernel) (by decide +kernel)⟩
theorem kt_X5_moveUnlessHome : gx_Mt yX5_moveUnlessHome cX5_moveUnlessHome 4 none 3 := ⟨gx_mem 894 (by decide +kernel) (by decide +kernel), gx_mem 86 (by decide +kernel) (by decide +kernel), by decide +kernel, by decide⟩
theorem kc_RX5_114 : gx_MV RX5 114 yX5_moveUnlessHome cX5_moveUnlessHome 4 none 3 := ⟨kt_X5_moveUnlessHome, gx_mem 891 (by decide +kernel) (by decide +kernel), gx_mem 893 (by decide +kernel) (by decide +kernel), gx_mem 28 (by decide +kernel) (by decide +kernel)⟩
theorem kf_RX5_35 : gx_Fld RX5 35 4 4 := ⟨RX5, TX5, 8, rfl, inX5, by decide, gx_mem 330 (by decide +kernel) (by decide +kernel)⟩
theorem kt_X5_pairAt : gx_Mt yX5_pairAt cX5_pairAt 3 (some .int) 2 := ⟨gx_mem 898 (by decide +kernel) (by decide +kernel), gx_mem 86 (by decide +kernel) (by decide +kernel), by decide +kernel, by decide⟩
theorem kc_RX5_117 : gx_MS RX5 117 yX5_pairAt cX5_pairAt 3 (some .int) 2 := ⟨kt_X5_pairAt, gx_mem 896 (by decide +kernel) (by decide +kernel), gx_mem 897 (by decide +kernel) (by decide +kernel)⟩
theorem kt_X5_gain : gx_Mt yX5_gain cX5_gain 5 (some .int) 3 := ⟨gx_mem 902 (by decide +kernel) (by decide +kernel), gx_mem 86 (by decide +kernel) (by decide +kernel), by decide +kernel, by decide⟩
theorem kc_RX5_120 : gx_MV RX5 120 yX5_gain cX5_gain 5 (some .int) 3 := ⟨kt_X5_gain, gx_mem 899 (by decide +kernel) (by decide +kernel), gx_mem 901 (by decide +kernel) (by decide +kernel), gx_mem 29 (by decide +kernel) (by decide +kernel)⟩
theorem kf_RX5_38 : gx_Fld RX5 38 4 5 := ⟨RX5, TX5, 8, rfl, inX5, by decide, gx_mem 331 (by decide +kernel) (by decide +kernel)⟩
theorem kt_X5_rests : gx_Mt yX5_rests cX5_rests 4 (some .boolean) 2 := ⟨gx_mem 910 (by decide +kernel) (by decide +kernel), gx_mem 86 (by decide +kernel) (by decide +kernel), by decide +kernel, by decide⟩
theorem kc_RX5_124 : gx_MV RX5 124 yX5_rests cX5_rests 4 (some .boolean) 2 := ⟨kt_X5_rests, gx_mem 907 (by decide +kernel) (by decide +kernel), gx_mem 909 (by decide +kernel) (by decide +kernel), gx_mem 30 (by decide +kernel) (by decide +kernel)⟩
theorem kt_X0_homes : gx_Mt yX0_homes cX0_homes 3 (some .int) 0 := ⟨gx_mem 674 (by decide +kernel) (by decide +kernel), gx_mem 80 (by decide +kernel) (by decide +kernel), by decide +kernel, by decide⟩
theorem kc_RX5_149 : gx_MV RX5 149 yX0_homes cX0_homes 3 (some .int) 0 := ⟨kt_X0_homes, gx_mem 932 (by decide +kernel) (by decide +kernel), gx_mem 672 (by decide +kernel) (by decide +kernel), gx_mem 673 (by decide +kernel) (by decide +kernel)⟩
theorem kk_RX5_132 : Cond.constantLong RX5 132 1103515245 ∈ gx_tbl := gx_mem 924 (by decide +kernel) (by decide +kernel)
theorem kk_RX5_134 : Cond.constantLong RX5 134 12345 ∈ gx_tbl := gx_mem 925 (by decide +kernel) (by decide +kernel)
theorem kk_RX5_136 : Cond.constantLong RX5 136 2147483648 ∈ gx_tbl := gx_mem 926 (by decide +kernel) (by decide +kernel)
theorem kk_RX5_138 : Cond.constantLong RX5 138 65536 ∈ gx_tbl := gx_mem 927 (by decide +kernel) (by decide +kernel)
theorem kt_X10_leftOver : gx_Mt yX10_leftOver cX10_leftOver 3 (some .int) 2 := ⟨gx_mem 930 (by decide +kernel) (by decide +kernel), gx_mem 78 (by decide +kernel) (by decide +kernel), by decide +kernel, by decide⟩
theorem kc_RX5_140 : gx_MSN RX5 140 yX10_leftOver cX10_leftOver 3 (some .int) 2 := ⟨kt_X10_leftOver, by decide +kernel, gx_mem 929 (by decide +kernel) (by decide +kernel)⟩
theorem kf_RX5_144 : gx_Fld RX5 144 0 3 := ⟨RX0, TX0, 11, rfl, inX0, by decide, gx_mem 133 (by decide +kernel) (by decide +kernel)⟩
theorem kk_RX5_147 : Cond.constantLong RX5 147 1048576 ∈ gx_tbl := gx_mem 931 (by decide +kernel) (by decide +kernel)
theorem kk_RX9_3 : Cond.methodLink RX9 3 objectInit ∈ gx_tbl := gx_mem 283 (by decide +kernel) (by decide +kernel)
theorem kp_RX9_9 : gx_FldP RX9 9 7 0 false .int := ⟨RX9, TX9, 8, rfl, inX9, by decide, gx_mem 288 (by decide +kernel) (by decide +kernel), ⟨tyX9, tyX9_ok⟩, nmX9, rfl, by decide +kernel, fun q => by cases q⟩
theorem kn_RX9_15 : gx_Cls RX9 15 0 11 [.int 0, .int 0, .int 0, .int 0, .null, .null, .null, .null, .null, .null, .null] := ⟨RX0, TX0, tyX0, rfl, inX0, tyX0_ok, gx_mem 284 (by decide +kernel) (by decide +kernel), gx_mem 110 (by decide +kernel) (by decide +kernel), gx_mem 80 (by decide +kernel) (by decide +kernel), by decide +kernel⟩
theorem kc_RX9_17 : gx_MIN RX9 17 yX0_init cX0_init 1 0 := ⟨kt_X0_init, by decide +kernel, gx_mem 112 (by decide +kernel) (by decide +kernel), rfl⟩
theorem kp_RX9_18 : gx_FldP RX9 18 7 1 true (.object "SnakeLadders$Board") := ⟨RX9, TX9, 8, rfl, inX9, by decide, gx_mem 290 (by decide +kernel) (by decide +kernel), ⟨tyX9, tyX9_ok⟩, nmX9, rfl, by decide +kernel, fun _ => rfl⟩
theorem ka_byte : Cond.arrayClass .byte ∈ gx_tbl := gx_mem 316 (by decide +kernel) (by decide +kernel)
theorem kp_RX9_22 : gx_FldP RX9 22 7 2 true (.array .byte) := ⟨RX9, TX9, 8, rfl, inX9, by decide, gx_mem 292 (by decide +kernel) (by decide +kernel), ⟨tyX9, tyX9_ok⟩, nmX9, rfl, by decide +kernel, fun _ => rfl⟩
theorem kn_RX9_26 : gx_Cls RX9 26 6 5 [.int 0, .int 0, .int 0, .int 0, .int 0] := ⟨RX8, TX8, tyX8, rfl, inX8, tyX8_ok, gx_mem 286 (by decide +kernel) (by decide +kernel), gx_mem 198 (by decide +kernel) (by decide +kernel), gx_mem 83 (by decide +kernel) (by decide +kernel), by decide +kernel⟩
theorem kc_RX9_28 : gx_MIN RX9 28 yX8_init cX8_init 1 0 := ⟨kt_X8_init, by decide +kernel, gx_mem 200 (by decide +kernel) (by decide +kernel), rfl⟩
theorem kp_RX9_29 : gx_FldP RX9 29 7 3 true (.object "SnakeLadders$Step") := ⟨RX9, TX9, 8, rfl, inX9, by decide, gx_mem 293 (by decide +kernel) (by decide +kernel), ⟨tyX9, tyX9_ok⟩, nmX9, rfl, by decide +kernel, fun _ => rfl⟩
theorem kp_RX9_33 : gx_FldP RX9 33 7 4 false .int := ⟨RX9, TX9, 8, rfl, inX9, by decide, gx_mem 294 (by decide +kernel) (by decide +kernel), ⟨tyX9, tyX9_ok⟩, nmX9, rfl, by decide +kernel, fun q => by cases q⟩
theorem kp_RX9_36 : gx_FldP RX9 36 7 5 false .int := ⟨RX9, TX9, 8, rfl, inX9, by decide, gx_mem 295 (by decide +kernel) (by decide +kernel), ⟨tyX9, tyX9_ok⟩, nmX9, rfl, by decide +kernel, fun q => by cases q⟩
theorem kp_RX9_39 : gx_FldP RX9 39 7 6 false .int := ⟨RX9, TX9, 8, rfl, inX9, by decide, gx_mem 296 (by decide +kernel) (by decide +kernel), ⟨tyX9, tyX9_ok⟩, nmX9, rfl, by decide +kernel, fun q => by cases q⟩
theorem kp_RX9_42 : gx_FldP RX9 42 7 7 false .int := ⟨RX9, TX9, 8, rfl, inX9, by decide, gx_mem 297 (by decide +kernel) (by decide +kernel), ⟨tyX9, tyX9_ok⟩, nmX9, rfl, by decide +kernel, fun q => by cases q⟩
theorem kf_RX9_9 : gx_Fld RX9 9 7 0 := ⟨RX9, TX9, 8, rfl, inX9, by decide, gx_mem 288 (by decide +kernel) (by decide +kernel)⟩
theorem kf_RX9_22 : gx_Fld RX9 22 7 2 := ⟨RX9, TX9, 8, rfl, inX9, by decide, gx_mem 292 (by decide +kernel) (by decide +kernel)⟩
theorem kf_RX9_36 : gx_Fld RX9 36 7 5 := ⟨RX9, TX9, 8, rfl, inX9, by decide, gx_mem 295 (by decide +kernel) (by decide +kernel)⟩
theorem kf_RX9_33 : gx_Fld RX9 33 7 4 := ⟨RX9, TX9, 8, rfl, inX9, by decide, gx_mem 294 (by decide +kernel) (by decide +kernel)⟩
theorem kf_RX9_42 : gx_Fld RX9 42 7 7 := ⟨RX9, TX9, 8, rfl, inX9, by decide, gx_mem 297 (by decide +kernel) (by decide +kernel)⟩
theorem kc_RX9_128 : gx_MSN RX9 128 yX10_within cX10_within 3 (some .boolean) 3 := ⟨kt_X10_within, by decide +kernel, gx_mem 402 (by decide +kernel) (by decide +kernel)⟩
theorem kt_X9_byteAt : gx_Mt yX9_byteAt cX9_byteAt 2 (some .int) 1 := ⟨gx_mem 484 (by decide +kernel) (by decide +kernel), gx_mem 85 (by decide +kernel) (by decide +kernel), by decide +kernel, by decide⟩
theorem kc_RX9_137 : gx_MV RX9 137 yX9_byteAt cX9_byteAt 2 (some .int) 1 := ⟨kt_X9_byteAt, gx_mem 481 (by decide +kernel) (by decide +kernel), gx_mem 483 (by decide +kernel) (by decide +kernel), gx_mem 3 (by decide +kernel) (by decide +kernel)⟩
theorem kf_RX9_39 : gx_Fld RX9 39 7 6 := ⟨RX9, TX9, 8, rfl, inX9, by decide, gx_mem 296 (by decide +kernel) (by decide +kernel)⟩
theorem kt_X9_runEnd : gx_Mt yX9_runEnd cX9_runEnd 5 (some .int) 3 := ⟨gx_mem 480 (by decide +kernel) (by decide +kernel), gx_mem 85 (by decide +kernel) (by decide +kernel), by decide +kernel, by decide⟩
theorem kc_RX9_144 : gx_MV RX9 144 yX9_runEnd cX9_runEnd 5 (some .int) 3 := ⟨kt_X9_runEnd, gx_mem 477 (by decide +kernel) (by decide +kernel), gx_mem 479 (by decide +kernel) (by decide +kernel), gx_mem 2 (by decide +kernel) (by decide +kernel)⟩
theorem kt_X9_valueOf : gx_Mt yX9_valueOf cX9_valueOf 3 (some .int) 1 := ⟨gx_mem 488 (by decide +kernel) (by decide +kernel), gx_mem 85 (by decide +kernel) (by decide +kernel), by decide +kernel, by decide⟩
theorem kc_RX9_147 : gx_MV RX9 147 yX9_valueOf cX9_valueOf 3 (some .int) 1 := ⟨kt_X9_valueOf, gx_mem 485 (by decide +kernel) (by decide +kernel), gx_mem 487 (by decide +kernel) (by decide +kernel), gx_mem 4 (by decide +kernel) (by decide +kernel)⟩
theorem kt_X9_nextToken : gx_Mt yX9_nextToken cX9_nextToken 3 none 0 := ⟨gx_mem 476 (by decide +kernel) (by decide +kernel), gx_mem 85 (by decide +kernel) (by decide +kernel), by decide +kernel, by decide⟩
theorem kc_RX9_45 : gx_MV RX9 45 yX9_nextToken cX9_nextToken 3 none 0 := ⟨kt_X9_nextToken, gx_mem 473 (by decide +kernel) (by decide +kernel), gx_mem 475 (by decide +kernel) (by decide +kernel), gx_mem 1 (by decide +kernel) (by decide +kernel)⟩
theorem kt_X9_isNumber : gx_Mt yX9_isNumber cX9_isNumber 3 (some .boolean) 2 := ⟨gx_mem 553 (by decide +kernel) (by decide +kernel), gx_mem 85 (by decide +kernel) (by decide +kernel), by decide +kernel, by decide⟩
theorem kc_RX9_117 : gx_MV RX9 117 yX9_isNumber cX9_isNumber 3 (some .boolean) 2 := ⟨kt_X9_isNumber, gx_mem 550 (by decide +kernel) (by decide +kernel), gx_mem 552 (by decide +kernel) (by decide +kernel), gx_mem 8 (by decide +kernel) (by decide +kernel)⟩
theorem kk_RJ0_38 : Cond.fieldLink RJ0 38 "java/lang/String" "COMPACT_STRINGS" "Z" ∈ gx_tbl := gx_mem 506 (by decide +kernel) (by decide +kernel)
theorem kk_RJ0_15 : Cond.fieldLink RJ0 15 "java/lang/String" "coder" "B" ∈ gx_tbl := gx_mem 1415 (by decide +kernel) (by decide +kernel)
theorem kk_RJ0_9 : Cond.fieldLink RJ0 9 "java/lang/String" "value" "[B" ∈ gx_tbl := gx_mem 1414 (by decide +kernel) (by decide +kernel)
theorem kt_J0_coder_7d493 : gx_Mt yJ0_coder_7d493 cJ0_coder_7d493 1 (some .byte) 0 := ⟨gx_mem 505 (by decide +kernel) (by decide +kernel), gx_mem 89 (by decide +kernel) (by decide +kernel), by decide +kernel, by decide⟩
theorem kc_RJ0_335 : gx_MV RJ0 335 yJ0_coder_7d493 cJ0_coder_7d493 1 (some .byte) 0 := ⟨kt_J0_coder_7d493, gx_mem 502 (by decide +kernel) (by decide +kernel), gx_mem 503 (by decide +kernel) (by decide +kernel), gx_mem 504 (by decide +kernel) (by decide +kernel)⟩
theorem kk_RJ0_1053 : Cond.fieldLink RJ0 1053 "jdk/internal/util/Preconditions" "SIOOBE_FORMATTER" "Ljava/util/function/BiFunction;" ∈ gx_tbl := gx_mem 522 (by decide +kernel) (by decide +kernel)
theorem kt_J3_checkIndex_8e157 : gx_Mt yJ3_checkIndex_8e157 cJ3_checkIndex_8e157 3 (some .int) 3 := ⟨gx_mem 526 (by decide +kernel) (by decide +kernel), gx_mem 91 (by decide +kernel) (by decide +kernel), by decide +kernel, by decide⟩
theorem kc_RJ0_1059 : gx_MS RJ0 1059 yJ3_checkIndex_8e157 cJ3_checkIndex_8e157 3 (some .int) 3 := ⟨kt_J3_checkIndex_8e157, gx_mem 524 (by decide +kernel) (by decide +kernel), gx_mem 525 (by decide +kernel) (by decide +kernel)⟩
theorem kt_J0_checkIndex_df160 : gx_Mt yJ0_checkIndex_df160 cJ0_checkIndex_df160 2 none 2 := ⟨gx_mem 521 (by decide +kernel) (by decide +kernel), gx_mem 89 (by decide +kernel) (by decide +kernel), by decide +kernel, by decide⟩
theorem kc_RJ1_9 : gx_MS RJ1 9 yJ0_checkIndex_df160 cJ0_checkIndex_df160 2 none 2 := ⟨kt_J0_checkIndex_df160, gx_mem 519 (by decide +kernel) (by decide +kernel), gx_mem 520 (by decide +kernel) (by decide +kernel)⟩
theorem kt_J0_isLatin1_aae02 : gx_Mt yJ0_isLatin1_aae02 cJ0_isLatin1_aae02 1 (some .boolean) 0 := ⟨gx_mem 515 (by decide +kernel) (by decide +kernel), gx_mem 89 (by decide +kernel) (by decide +kernel), by decide +kernel, by decide⟩
theorem kc_RJ0_492 : gx_MV RJ0 492 yJ0_isLatin1_aae02 cJ0_isLatin1_aae02 1 (some .boolean) 0 := ⟨kt_J0_isLatin1_aae02, gx_mem 512 (by decide +kernel) (by decide +kernel), gx_mem 513 (by decide +kernel) (by decide +kernel), gx_mem 514 (by decide +kernel) (by decide +kernel)⟩
theorem kt_J1_charAt_3b067 : gx_Mt yJ1_charAt_3b067 cJ1_charAt_3b067 2 (some .char) 2 := ⟨gx_mem 518 (by decide +kernel) (by decide +kernel), gx_mem 90 (by decide +kernel) (by decide +kernel), by decide +kernel, by decide⟩
theorem kc_RJ0_495 : gx_MS RJ0 495 yJ1_charAt_3b067 cJ1_charAt_3b067 2 (some .char) 2 := ⟨kt_J1_charAt_3b067, gx_mem 516 (by decide +kernel) (by decide +kernel), gx_mem 517 (by decide +kernel) (by decide +kernel)⟩
theorem kt_J0_length_8abf5 : gx_Mt yJ0_length_8abf5 cJ0_length_8abf5 1 (some .int) 0 := ⟨gx_mem 501 (by decide +kernel) (by decide +kernel), gx_mem 89 (by decide +kernel) (by decide +kernel), by decide +kernel, by decide⟩
theorem kc_RX9_132 : gx_MV RX9 132 yJ0_length_8abf5 cJ0_length_8abf5 1 (some .int) 0 := ⟨kt_J0_length_8abf5, gx_mem 498 (by decide +kernel) (by decide +kernel), gx_mem 499 (by decide +kernel) (by decide +kernel), gx_mem 500 (by decide +kernel) (by decide +kernel)⟩
theorem kt_J0_charAt_5068e : gx_Mt yJ0_charAt_5068e cJ0_charAt_5068e 2 (some .char) 1 := ⟨gx_mem 511 (by decide +kernel) (by decide +kernel), gx_mem 89 (by decide +kernel) (by decide +kernel), by decide +kernel, by decide⟩
theorem kc_RX9_140 : gx_MV RX9 140 yJ0_charAt_5068e cJ0_charAt_5068e 2 (some .char) 1 := ⟨kt_J0_charAt_5068e, gx_mem 508 (by decide +kernel) (by decide +kernel), gx_mem 509 (by decide +kernel) (by decide +kernel), gx_mem 510 (by decide +kernel) (by decide +kernel)⟩
theorem kt_X9_isWord : gx_Mt yX9_isWord cX9_isWord 3 (some .boolean) 1 := ⟨gx_mem 497 (by decide +kernel) (by decide +kernel), gx_mem 85 (by decide +kernel) (by decide +kernel), by decide +kernel, by decide⟩
theorem kc_RX9_57 : gx_MV RX9 57 yX9_isWord cX9_isWord 3 (some .boolean) 1 := ⟨kt_X9_isWord, gx_mem 494 (by decide +kernel) (by decide +kernel), gx_mem 496 (by decide +kernel) (by decide +kernel), gx_mem 6 (by decide +kernel) (by decide +kernel)⟩
theorem kt_X9_nextNumber : gx_Mt yX9_nextNumber cX9_nextNumber 3 (some .boolean) 2 := ⟨gx_mem 549 (by decide +kernel) (by decide +kernel), gx_mem 85 (by decide +kernel) (by decide +kernel), by decide +kernel, by decide⟩
theorem kc_RX9_61 : gx_MV RX9 61 yX9_nextNumber cX9_nextNumber 3 (some .boolean) 2 := ⟨kt_X9_nextNumber, gx_mem 546 (by decide +kernel) (by decide +kernel), gx_mem 548 (by decide +kernel) (by decide +kernel), gx_mem 7 (by decide +kernel) (by decide +kernel)⟩
theorem kf_RX9_18 : gx_Fld RX9 18 7 1 := ⟨RX9, TX9, 8, rfl, inX9, by decide, gx_mem 290 (by decide +kernel) (by decide +kernel)⟩
theorem kt_X0_start : gx_Mt yX0_start cX0_start 3 none 2 := ⟨gx_mem 423 (by decide +kernel) (by decide +kernel), gx_mem 80 (by decide +kernel) (by decide +kernel), by decide +kernel, by decide⟩
theorem kc_RX9_65 : gx_MV RX9 65 yX0_start cX0_start 3 none 2 := ⟨kt_X0_start, gx_mem 555 (by decide +kernel) (by decide +kernel), gx_mem 421 (by decide +kernel) (by decide +kernel), gx_mem 422 (by decide +kernel) (by decide +kernel)⟩
theorem kt_X9_nextSemicolon : gx_Mt yX9_nextSemicolon cX9_nextSemicolon 1 (some .boolean) 0 := ⟨gx_mem 559 (by decide +kernel) (by decide +kernel), gx_mem 85 (by decide +kernel) (by decide +kernel), by decide +kernel, by decide⟩
theorem kc_RX9_69 : gx_MV RX9 69 yX9_nextSemicolon cX9_nextSemicolon 1 (some .boolean) 0 := ⟨kt_X9_nextSemicolon, gx_mem 556 (by decide +kernel) (by decide +kernel), gx_mem 558 (by decide +kernel) (by decide +kernel), gx_mem 9 (by decide +kernel) (by decide +kernel)⟩
theorem kf_RX9_92 : gx_Fld RX9 92 0 2 := ⟨RX0, TX0, 11, rfl, inX0, by decide, gx_mem 127 (by decide +kernel) (by decide +kernel)⟩
theorem kf_RX9_95 : gx_Fld RX9 95 0 0 := ⟨RX0, TX0, 11, rfl, inX0, by decide, gx_mem 119 (by decide +kernel) (by decide +kernel)⟩
theorem kc_RX9_96 : gx_MV RX9 96 yX0_linkOn cX0_linkOn 3 (some .int) 1 := ⟨kt_X0_linkOn, gx_mem 569 (by decide +kernel) (by decide +kernel), gx_mem 434 (by decide +kernel) (by decide +kernel), gx_mem 435 (by decide +kernel) (by decide +kernel)⟩
theorem kt_X0_addLink : gx_Mt yX0_addLink cX0_addLink 5 (some .int) 3 := ⟨gx_mem 440 (by decide +kernel) (by decide +kernel), gx_mem 80 (by decide +kernel) (by decide +kernel), by decide +kernel, by decide⟩
theorem kc_RX9_100 : gx_MV RX9 100 yX0_addLink cX0_addLink 5 (some .int) 3 := ⟨kt_X0_addLink, gx_mem 570 (by decide +kernel) (by decide +kernel), gx_mem 438 (by decide +kernel) (by decide +kernel), gx_mem 439 (by decide +kernel) (by decide +kernel)⟩
theorem kf_RX9_104 : gx_Fld RX9 104 0 3 := ⟨RX0, TX0, 11, rfl, inX0, by decide, gx_mem 132 (by decide +kernel) (by decide +kernel)⟩
theorem kt_X0_addPlayer : gx_Mt yX0_addPlayer cX0_addPlayer 3 (some .int) 1 := ⟨gx_mem 448 (by decide +kernel) (by decide +kernel), gx_mem 80 (by decide +kernel) (by decide +kernel), by decide +kernel, by decide⟩
theorem kc_RX9_107 : gx_MV RX9 107 yX0_addPlayer cX0_addPlayer 3 (some .int) 1 := ⟨kt_X0_addPlayer, gx_mem 576 (by decide +kernel) (by decide +kernel), gx_mem 446 (by decide +kernel) (by decide +kernel), gx_mem 447 (by decide +kernel) (by decide +kernel)⟩
theorem kf_RX9_110 : gx_Fld RX9 110 0 9 := ⟨RX0, TX0, 11, rfl, inX0, by decide, gx_mem 156 (by decide +kernel) (by decide +kernel)⟩
theorem kf_RX9_114 : gx_Fld RX9 114 0 1 := ⟨RX0, TX0, 11, rfl, inX0, by decide, gx_mem 123 (by decide +kernel) (by decide +kernel)⟩
theorem kc_RX9_120 : gx_MV RX9 120 yX0_isHome cX0_isHome 2 (some .boolean) 1 := ⟨kt_X0_isHome, gx_mem 587 (by decide +kernel) (by decide +kernel), gx_mem 588 (by decide +kernel) (by decide +kernel), gx_mem 589 (by decide +kernel) (by decide +kernel)⟩
theorem kf_RX9_29 : gx_Fld RX9 29 7 3 := ⟨RX9, TX9, 8, rfl, inX9, by decide, gx_mem 293 (by decide +kernel) (by decide +kernel)⟩
theorem kc_RX9_124 : gx_MV RX9 124 yX0_move cX0_move 6 none 3 := ⟨kt_X0_move, gx_mem 591 (by decide +kernel) (by decide +kernel), gx_mem 592 (by decide +kernel) (by decide +kernel), gx_mem 593 (by decide +kernel) (by decide +kernel)⟩
theorem kt_X9_throwItem : gx_Mt yX9_throwItem cX9_throwItem 3 (some .boolean) 0 := ⟨gx_mem 586 (by decide +kernel) (by decide +kernel), gx_mem 85 (by decide +kernel) (by decide +kernel), by decide +kernel, by decide⟩
theorem kc_RX9_89 : gx_MV RX9 89 yX9_throwItem cX9_throwItem 3 (some .boolean) 0 := ⟨kt_X9_throwItem, gx_mem 583 (by decide +kernel) (by decide +kernel), gx_mem 585 (by decide +kernel) (by decide +kernel), gx_mem 14 (by decide +kernel) (by decide +kernel)⟩
theorem kt_X9_setItem : gx_Mt yX9_setItem cX9_setItem 2 (some .boolean) 0 := ⟨gx_mem 581 (by decide +kernel) (by decide +kernel), gx_mem 85 (by decide +kernel) (by decide +kernel), by decide +kernel, by decide⟩
theorem kc_RX9_84 : gx_MV RX9 84 yX9_setItem cX9_setItem 2 (some .boolean) 0 := ⟨kt_X9_setItem, gx_mem 578 (by decide +kernel) (by decide +kernel), gx_mem 580 (by decide +kernel) (by decide +kernel), gx_mem 13 (by decide +kernel) (by decide +kernel)⟩
theorem kt_X9_playerItem : gx_Mt yX9_playerItem cX9_playerItem 1 (some .boolean) 0 := ⟨gx_mem 575 (by decide +kernel) (by decide +kernel), gx_mem 85 (by decide +kernel) (by decide +kernel), by decide +kernel, by decide⟩
theorem kc_RX9_79 : gx_MV RX9 79 yX9_playerItem cX9_playerItem 1 (some .boolean) 0 := ⟨kt_X9_playerItem, gx_mem 572 (by decide +kernel) (by decide +kernel), gx_mem 574 (by decide +kernel) (by decide +kernel), gx_mem 12 (by decide +kernel) (by decide +kernel)⟩
theorem kt_X9_linkItem : gx_Mt yX9_linkItem cX9_linkItem 3 (some .boolean) 0 := ⟨gx_mem 568 (by decide +kernel) (by decide +kernel), gx_mem 85 (by decide +kernel) (by decide +kernel), by decide +kernel, by decide⟩
theorem kc_RX9_74 : gx_MV RX9 74 yX9_linkItem cX9_linkItem 3 (some .boolean) 0 := ⟨kt_X9_linkItem, gx_mem 565 (by decide +kernel) (by decide +kernel), gx_mem 567 (by decide +kernel) (by decide +kernel), gx_mem 11 (by decide +kernel) (by decide +kernel)⟩
theorem kt_X9_boardItem : gx_Mt yX9_boardItem cX9_boardItem 2 (some .boolean) 0 := ⟨gx_mem 492 (by decide +kernel) (by decide +kernel), gx_mem 85 (by decide +kernel) (by decide +kernel), by decide +kernel, by decide⟩
theorem kc_RX9_48 : gx_MV RX9 48 yX9_boardItem cX9_boardItem 2 (some .boolean) 0 := ⟨kt_X9_boardItem, gx_mem 489 (by decide +kernel) (by decide +kernel), gx_mem 491 (by decide +kernel) (by decide +kernel), gx_mem 5 (by decide +kernel) (by decide +kernel)⟩
theorem kt_X9_laterItem : gx_Mt yX9_laterItem cX9_laterItem 1 (some .boolean) 0 := ⟨gx_mem 563 (by decide +kernel) (by decide +kernel), gx_mem 85 (by decide +kernel) (by decide +kernel), by decide +kernel, by decide⟩
theorem kc_RX9_52 : gx_MV RX9 52 yX9_laterItem cX9_laterItem 1 (some .boolean) 0 := ⟨kt_X9_laterItem, gx_mem 560 (by decide +kernel) (by decide +kernel), gx_mem 562 (by decide +kernel) (by decide +kernel), gx_mem 10 (by decide +kernel) (by decide +kernel)⟩
theorem kk_RX10_1 : Cond.methodLink RX10 1 objectInit ∈ gx_tbl := gx_mem 100 (by decide +kernel) (by decide +kernel)
theorem kn_RX10_7 : gx_Cls RX10 7 1 4 [.null, .null, .null, .null] := ⟨RX1, TX1, tyX1, rfl, inX1, tyX1_ok, gx_mem 103 (by decide +kernel) (by decide +kernel), gx_mem 104 (by decide +kernel) (by decide +kernel), gx_mem 79 (by decide +kernel) (by decide +kernel), by decide +kernel⟩
theorem kt_X1_init : gx_Mt yX1_init cX1_init 1 none 0 := ⟨gx_mem 107 (by decide +kernel) (by decide +kernel), gx_mem 79 (by decide +kernel) (by decide +kernel), by decide +kernel, by decide⟩
theorem kc_RX10_9 : gx_MIN RX10 9 yX1_init cX1_init 1 0 := ⟨kt_X1_init, by decide +kernel, gx_mem 106 (by decide +kernel) (by decide +kernel), rfl⟩
theorem kp_RX10_10 : gx_FldP RX10 10 8 0 true (.object "SnakeLadders$Game") := ⟨RX10, TX10, 11, rfl, inX10, by decide, gx_mem 363 (by decide +kernel) (by decide +kernel), ⟨tyX10, tyX10_ok⟩, nmX10, rfl, by decide +kernel, fun _ => rfl⟩
theorem kk_RX10_7 : Cond.classLink RX10 7 RX1 ∈ gx_tbl := gx_mem 103 (by decide +kernel) (by decide +kernel)
theorem kp_RX10_16 : gx_FldP RX10 16 8 1 true (.array (.object "SnakeLadders$Game")) := ⟨RX10, TX10, 11, rfl, inX10, by decide, gx_mem 364 (by decide +kernel) (by decide +kernel), ⟨tyX10, tyX10_ok⟩, nmX10, rfl, by decide +kernel, fun _ => rfl⟩
theorem ka_boolean : Cond.arrayClass .boolean ∈ gx_tbl := gx_mem 315 (by decide +kernel) (by decide +kernel)
theorem kp_RX10_20 : gx_FldP RX10 20 8 2 true (.array .boolean) := ⟨RX10, TX10, 11, rfl, inX10, by decide, gx_mem 365 (by decide +kernel) (by decide +kernel), ⟨tyX10, tyX10_ok⟩, nmX10, rfl, by decide +kernel, fun _ => rfl⟩
theorem kn_RX10_24 : gx_Cls RX10 24 7 8 [.int 0, .null, .null, .null, .int 0, .int 0, .int 0, .int 0] := ⟨RX9, TX9, tyX9, rfl, inX9, tyX9_ok, gx_mem 278 (by decide +kernel) (by decide +kernel), gx_mem 279 (by decide +kernel) (by decide +kernel), gx_mem 85 (by decide +kernel) (by decide +kernel), by decide +kernel⟩
theorem kt_X9_init : gx_Mt yX9_init cX9_init 1 none 0 := ⟨gx_mem 282 (by decide +kernel) (by decide +kernel), gx_mem 85 (by decide +kernel) (by decide +kernel), by decide +kernel, by decide⟩
theorem kc_RX10_26 : gx_MIN RX10 26 yX9_init cX9_init 1 0 := ⟨kt_X9_init, by decide +kernel, gx_mem 281 (by decide +kernel) (by decide +kernel), rfl⟩
theorem kp_RX10_27 : gx_FldP RX10 27 8 3 true (.object "SnakeLadders$TextReader") := ⟨RX10, TX10, 11, rfl, inX10, by decide, gx_mem 366 (by decide +kernel) (by decide +kernel), ⟨tyX10, tyX10_ok⟩, nmX10, rfl, by decide +kernel, fun _ => rfl⟩
theorem kn_RX10_31 : gx_Cls RX10 31 4 8 [.null, .null, .null, .null, .null, .null, .int 0, .int 0] := ⟨RX5, TX5, tyX5, rfl, inX5, tyX5_ok, gx_mem 317 (by decide +kernel) (by decide +kernel), gx_mem 318 (by decide +kernel) (by decide +kernel), gx_mem 86 (by decide +kernel) (by decide +kernel), by decide +kernel⟩
theorem kt_X5_init : gx_Mt yX5_init cX5_init 1 none 0 := ⟨gx_mem 321 (by decide +kernel) (by decide +kernel), gx_mem 86 (by decide +kernel) (by decide +kernel), by decide +kernel, by decide⟩
theorem kc_RX10_33 : gx_MIN RX10 33 yX5_init cX5_init 1 0 := ⟨kt_X5_init, by decide +kernel, gx_mem 320 (by decide +kernel) (by decide +kernel), rfl⟩
theorem kp_RX10_34 : gx_FldP RX10 34 8 4 true (.object "SnakeLadders$Outlook") := ⟨RX10, TX10, 11, rfl, inX10, by decide, gx_mem 367 (by decide +kernel) (by decide +kernel), ⟨tyX10, tyX10_ok⟩, nmX10, rfl, by decide +kernel, fun _ => rfl⟩
theorem kn_RX10_38 : gx_Cls RX10 38 2 1 [.null] := ⟨RX2, TX2, tyX2, rfl, inX2, tyX2_ok, gx_mem 353 (by decide +kernel) (by decide +kernel), gx_mem 354 (by decide +kernel) (by decide +kernel), gx_mem 87 (by decide +kernel) (by decide +kernel), by decide +kernel⟩
theorem kt_X2_init : gx_Mt yX2_init cX2_init 1 none 0 := ⟨gx_mem 357 (by decide +kernel) (by decide +kernel), gx_mem 87 (by decide +kernel) (by decide +kernel), by decide +kernel, by decide⟩
theorem kc_RX10_40 : gx_MIN RX10 40 yX2_init cX2_init 1 0 := ⟨kt_X2_init, by decide +kernel, gx_mem 356 (by decide +kernel) (by decide +kernel), rfl⟩
theorem kp_RX10_41 : gx_FldP RX10 41 8 5 true (.object "SnakeLadders$Guess") := ⟨RX10, TX10, 11, rfl, inX10, by decide, gx_mem 368 (by decide +kernel) (by decide +kernel), ⟨tyX10, tyX10_ok⟩, nmX10, rfl, by decide +kernel, fun _ => rfl⟩
theorem kp_RX10_45 : gx_FldP RX10 45 8 6 false .long := ⟨RX10, TX10, 11, rfl, inX10, by decide, gx_mem 369 (by decide +kernel) (by decide +kernel), ⟨tyX10, tyX10_ok⟩, nmX10, rfl, by decide +kernel, fun q => by cases q⟩
theorem kp_RX10_49 : gx_FldP RX10 49 8 7 false .long := ⟨RX10, TX10, 11, rfl, inX10, by decide, gx_mem 370 (by decide +kernel) (by decide +kernel), ⟨tyX10, tyX10_ok⟩, nmX10, rfl, by decide +kernel, fun q => by cases q⟩
theorem kp_RX10_52 : gx_FldP RX10 52 8 8 false .int := ⟨RX10, TX10, 11, rfl, inX10, by decide, gx_mem 371 (by decide +kernel) (by decide +kernel), ⟨tyX10, tyX10_ok⟩, nmX10, rfl, by decide +kernel, fun q => by cases q⟩
theorem kp_RX10_56 : gx_FldP RX10 56 8 9 false .int := ⟨RX10, TX10, 11, rfl, inX10, by decide, gx_mem 372 (by decide +kernel) (by decide +kernel), ⟨tyX10, tyX10_ok⟩, nmX10, rfl, by decide +kernel, fun q => by cases q⟩
theorem kp_RX10_59 : gx_FldP RX10 59 8 10 false .int := ⟨RX10, TX10, 11, rfl, inX10, by decide, gx_mem 373 (by decide +kernel) (by decide +kernel), ⟨tyX10, tyX10_ok⟩, nmX10, rfl, by decide +kernel, fun q => by cases q⟩
theorem kf_RX10_52 : gx_Fld RX10 52 8 8 := ⟨RX10, TX10, 11, rfl, inX10, by decide, gx_mem 371 (by decide +kernel) (by decide +kernel)⟩
theorem kf_RX10_56 : gx_Fld RX10 56 8 9 := ⟨RX10, TX10, 11, rfl, inX10, by decide, gx_mem 372 (by decide +kernel) (by decide +kernel)⟩
theorem kf_RX10_59 : gx_Fld RX10 59 8 10 := ⟨RX10, TX10, 11, rfl, inX10, by decide, gx_mem 373 (by decide +kernel) (by decide +kernel)⟩
theorem kc_RX10_62 : gx_MS RX10 62 yX10_within cX10_within 3 (some .boolean) 3 := ⟨kt_X10_within, gx_mem 401 (by decide +kernel) (by decide +kernel), gx_mem 402 (by decide +kernel) (by decide +kernel)⟩
theorem kf_RX10_10 : gx_Fld RX10 10 8 0 := ⟨RX10, TX10, 11, rfl, inX10, by decide, gx_mem 363 (by decide +kernel) (by decide +kernel)⟩
theorem kf_RX10_70 : gx_Fld RX10 70 1 0 := ⟨RX1, TX1, 4, rfl, inX1, by decide, gx_mem 261 (by decide +kernel) (by decide +kernel)⟩
theorem kf_RX10_74 : gx_Fld RX10 74 0 3 := ⟨RX0, TX0, 11, rfl, inX0, by decide, gx_mem 130 (by decide +kernel) (by decide +kernel)⟩
theorem kt_X1_dropPast : gx_Mt yX1_dropPast cX1_dropPast 1 none 0 := ⟨gx_mem 411 (by decide +kernel) (by decide +kernel), gx_mem 79 (by decide +kernel) (by decide +kernel), by decide +kernel, by decide⟩
theorem kc_RX10_79 : gx_MV RX10 79 yX1_dropPast cX1_dropPast 1 none 0 := ⟨kt_X1_dropPast, gx_mem 408 (by decide +kernel) (by decide +kernel), gx_mem 409 (by decide +kernel) (by decide +kernel), gx_mem 410 (by decide +kernel) (by decide +kernel)⟩
theorem kc_RX10_82 : gx_MV RX10 82 yX0_start cX0_start 3 none 2 := ⟨kt_X0_start, gx_mem 420 (by decide +kernel) (by decide +kernel), gx_mem 421 (by decide +kernel) (by decide +kernel), gx_mem 422 (by decide +kernel) (by decide +kernel)⟩
theorem kt_X10_refuse : gx_Mt yX10_refuse cX10_refuse 2 (some .int) 1 := ⟨gx_mem 407 (by decide +kernel) (by decide +kernel), gx_mem 78 (by decide +kernel) (by decide +kernel), by decide +kernel, by decide⟩
theorem kc_RX10_66 : gx_MV RX10 66 yX10_refuse cX10_refuse 2 (some .int) 1 := ⟨kt_X10_refuse, gx_mem 404 (by decide +kernel) (by decide +kernel), gx_mem 406 (by decide +kernel) (by decide +kernel), gx_mem 0 (by decide +kernel) (by decide +kernel)⟩
theorem kf_RX10_86 : gx_Fld RX10 86 0 1 := ⟨RX0, TX0, 11, rfl, inX0, by decide, gx_mem 121 (by decide +kernel) (by decide +kernel)⟩
theorem kp_RX10_86 : gx_FldP RX10 86 0 1 false .int := ⟨RX0, TX0, 11, rfl, inX0, by decide, gx_mem 121 (by decide +kernel) (by decide +kernel), ⟨tyX0, tyX0_ok⟩, nmX0, rfl, by decide +kernel, fun q => by cases q⟩
theorem kf_RX10_89 : gx_Fld RX10 89 1 1 := ⟨RX1, TX1, 4, rfl, inX1, by decide, gx_mem 263 (by decide +kernel) (by decide +kernel)⟩
theorem kc_RX10_93 : gx_MV RX10 93 yX3_empty cX3_empty 1 none 0 := ⟨kt_X3_empty, gx_mem 428 (by decide +kernel) (by decide +kernel), gx_mem 413 (by decide +kernel) (by decide +kernel), gx_mem 414 (by decide +kernel) (by decide +kernel)⟩
theorem kf_RX10_98 : gx_Fld RX10 98 0 0 := ⟨RX0, TX0, 11, rfl, inX0, by decide, gx_mem 117 (by decide +kernel) (by decide +kernel)⟩
theorem kc_RX10_101 : gx_MV RX10 101 yX0_linkOn cX0_linkOn 3 (some .int) 1 := ⟨kt_X0_linkOn, gx_mem 433 (by decide +kernel) (by decide +kernel), gx_mem 434 (by decide +kernel) (by decide +kernel), gx_mem 435 (by decide +kernel) (by decide +kernel)⟩
theorem kf_RX10_104 : gx_Fld RX10 104 0 2 := ⟨RX0, TX0, 11, rfl, inX0, by decide, gx_mem 126 (by decide +kernel) (by decide +kernel)⟩
theorem kc_RX10_107 : gx_MV RX10 107 yX0_addLink cX0_addLink 5 (some .int) 3 := ⟨kt_X0_addLink, gx_mem 437 (by decide +kernel) (by decide +kernel), gx_mem 438 (by decide +kernel) (by decide +kernel), gx_mem 439 (by decide +kernel) (by decide +kernel)⟩
theorem kc_RX10_111 : gx_MV RX10 111 yX0_addPlayer cX0_addPlayer 3 (some .int) 1 := ⟨kt_X0_addPlayer, gx_mem 445 (by decide +kernel) (by decide +kernel), gx_mem 446 (by decide +kernel) (by decide +kernel), gx_mem 447 (by decide +kernel) (by decide +kernel)⟩
theorem kf_RX10_27 : gx_Fld RX10 27 8 3 := ⟨RX10, TX10, 11, rfl, inX10, by decide, gx_mem 366 (by decide +kernel) (by decide +kernel)⟩
theorem kf_RX10_114 : gx_Fld RX10 114 7 0 := ⟨RX9, TX9, 8, rfl, inX9, by decide, gx_mem 289 (by decide +kernel) (by decide +kernel)⟩
theorem kt_X9_append : gx_Mt yX9_append cX9_append 2 (some .int) 1 := ⟨gx_mem 456 (by decide +kernel) (by decide +kernel), gx_mem 85 (by decide +kernel) (by decide +kernel), by decide +kernel, by decide⟩
theorem kc_RX10_115 : gx_MV RX10 115 yX9_append cX9_append 2 (some .int) 1 := ⟨kt_X9_append, gx_mem 453 (by decide +kernel) (by decide +kernel), gx_mem 454 (by decide +kernel) (by decide +kernel), gx_mem 455 (by decide +kernel) (by decide +kernel)⟩
theorem kt_X9_empty : gx_Mt yX9_empty cX9_empty 2 (some .int) 0 := ⟨gx_mem 464 (by decide +kernel) (by decide +kernel), gx_mem 85 (by decide +kernel) (by decide +kernel), by decide +kernel, by decide⟩
theorem kc_RX10_118 : gx_MV RX10 118 yX9_empty cX9_empty 2 (some .int) 0 := ⟨kt_X9_empty, gx_mem 461 (by decide +kernel) (by decide +kernel), gx_mem 462 (by decide +kernel) (by decide +kernel), gx_mem 463 (by decide +kernel) (by decide +kernel)⟩
theorem kt_X9_readItems : gx_Mt yX9_readItems cX9_readItems 2 (some .int) 0 := ⟨gx_mem 472 (by decide +kernel) (by decide +kernel), gx_mem 85 (by decide +kernel) (by decide +kernel), by decide +kernel, by decide⟩
theorem kc_RX10_121 : gx_MV RX10 121 yX9_readItems cX9_readItems 2 (some .int) 0 := ⟨kt_X9_readItems, gx_mem 469 (by decide +kernel) (by decide +kernel), gx_mem 470 (by decide +kernel) (by decide +kernel), gx_mem 471 (by decide +kernel) (by decide +kernel)⟩
theorem kf_RX10_127 : gx_Fld RX10 127 7 1 := ⟨RX9, TX9, 8, rfl, inX9, by decide, gx_mem 291 (by decide +kernel) (by decide +kernel)⟩
theorem kc_RX10_130 : gx_MV RX10 130 yX0_copy cX0_copy 3 none 1 := ⟨kt_X0_copy, gx_mem 632 (by decide +kernel) (by decide +kernel), gx_mem 633 (by decide +kernel) (by decide +kernel), gx_mem 634 (by decide +kernel) (by decide +kernel)⟩
theorem kt_X9_fault : gx_Mt yX9_fault cX9_fault 1 (some .int) 0 := ⟨gx_mem 631 (by decide +kernel) (by decide +kernel), gx_mem 85 (by decide +kernel) (by decide +kernel), by decide +kernel, by decide⟩
theorem kc_RX10_124 : gx_MV RX10 124 yX9_fault cX9_fault 1 (some .int) 0 := ⟨kt_X9_fault, gx_mem 628 (by decide +kernel) (by decide +kernel), gx_mem 629 (by decide +kernel) (by decide +kernel), gx_mem 630 (by decide +kernel) (by decide +kernel)⟩
theorem kt_X10_isPlayer : gx_Mt yX10_isPlayer cX10_isPlayer 2 (some .boolean) 1 := ⟨gx_mem 643 (by decide +kernel) (by decide +kernel), gx_mem 78 (by decide +kernel) (by decide +kernel), by decide +kernel, by decide⟩
theorem kc_RX10_134 : gx_MV RX10 134 yX10_isPlayer cX10_isPlayer 2 (some .boolean) 1 := ⟨kt_X10_isPlayer, gx_mem 640 (by decide +kernel) (by decide +kernel), gx_mem 642 (by decide +kernel) (by decide +kernel), gx_mem 17 (by decide +kernel) (by decide +kernel)⟩
theorem kc_RX10_138 : gx_MV RX10 138 yX0_isHome cX0_isHome 2 (some .boolean) 1 := ⟨kt_X0_isHome, gx_mem 644 (by decide +kernel) (by decide +kernel), gx_mem 588 (by decide +kernel) (by decide +kernel), gx_mem 589 (by decide +kernel) (by decide +kernel)⟩
theorem kt_X3_nextStep : gx_Mt yX3_nextStep cX3_nextStep 2 (some (.object "SnakeLadders$Step")) 0 := ⟨gx_mem 648 (by decide +kernel) (by decide +kernel), gx_mem 81 (by decide +kernel) (by decide +kernel), by decide +kernel, by decide⟩
theorem kc_RX10_141 : gx_MV RX10 141 yX3_nextStep cX3_nextStep 2 (some (.object "SnakeLadders$Step")) 0 := ⟨kt_X3_nextStep, gx_mem 645 (by decide +kernel) (by decide +kernel), gx_mem 646 (by decide +kernel) (by decide +kernel), gx_mem 647 (by decide +kernel) (by decide +kernel)⟩
theorem kc_RX10_145 : gx_MV RX10 145 yX0_move cX0_move 6 none 3 := ⟨kt_X0_move, gx_mem 653 (by decide +kernel) (by decide +kernel), gx_mem 592 (by decide +kernel) (by decide +kernel), gx_mem 593 (by decide +kernel) (by decide +kernel)⟩
theorem kf_RX10_149 : gx_Fld RX10 149 0 9 := ⟨RX0, TX0, 11, rfl, inX0, by decide, gx_mem 155 (by decide +kernel) (by decide +kernel)⟩
theorem kc_RX10_153 : gx_MV RX10 153 yX0_remember cX0_remember 3 none 2 := ⟨kt_X0_remember, gx_mem 658 (by decide +kernel) (by decide +kernel), gx_mem 596 (by decide +kernel) (by decide +kernel), gx_mem 597 (by decide +kernel) (by decide +kernel)⟩
theorem kf_RX10_157 : gx_Fld RX10 157 3 0 := ⟨RX3, TX3, 2, rfl, inX3, by decide, gx_mem 225 (by decide +kernel) (by decide +kernel)⟩
theorem kt_X3_takeBack : gx_Mt yX3_takeBack cX3_takeBack 2 none 1 := ⟨gx_mem 666 (by decide +kernel) (by decide +kernel), gx_mem 81 (by decide +kernel) (by decide +kernel), by decide +kernel, by decide⟩
theorem kc_RX10_160 : gx_MV RX10 160 yX3_takeBack cX3_takeBack 2 none 1 := ⟨kt_X3_takeBack, gx_mem 663 (by decide +kernel) (by decide +kernel), gx_mem 664 (by decide +kernel) (by decide +kernel), gx_mem 665 (by decide +kernel) (by decide +kernel)⟩
theorem kc_RX10_163 : gx_MV RX10 163 yX0_homes cX0_homes 3 (some .int) 0 := ⟨kt_X0_homes, gx_mem 671 (by decide +kernel) (by decide +kernel), gx_mem 672 (by decide +kernel) (by decide +kernel), gx_mem 673 (by decide +kernel) (by decide +kernel)⟩
theorem kf_RX10_166 : gx_Fld RX10 166 0 8 := ⟨RX0, TX0, 11, rfl, inX0, by decide, gx_mem 151 (by decide +kernel) (by decide +kernel)⟩
theorem kf_RX10_169 : gx_Fld RX10 169 0 10 := ⟨RX0, TX0, 11, rfl, inX0, by decide, gx_mem 159 (by decide +kernel) (by decide +kernel)⟩
theorem kt_X10_isLink : gx_Mt yX10_isLink cX10_isLink 2 (some .boolean) 1 := ⟨gx_mem 687 (by decide +kernel) (by decide +kernel), gx_mem 78 (by decide +kernel) (by decide +kernel), by decide +kernel, by decide⟩
theorem kc_RX10_172 : gx_MV RX10 172 yX10_isLink cX10_isLink 2 (some .boolean) 1 := ⟨kt_X10_isLink, gx_mem 684 (by decide +kernel) (by decide +kernel), gx_mem 686 (by decide +kernel) (by decide +kernel), gx_mem 19 (by decide +kernel) (by decide +kernel)⟩
theorem kf_RX10_175 : gx_Fld RX10 175 0 4 := ⟨RX0, TX0, 11, rfl, inX0, by decide, gx_mem 136 (by decide +kernel) (by decide +kernel)⟩
theorem kf_RX10_178 : gx_Fld RX10 178 0 5 := ⟨RX0, TX0, 11, rfl, inX0, by decide, gx_mem 141 (by decide +kernel) (by decide +kernel)⟩
theorem kf_RX10_181 : gx_Fld RX10 181 0 6 := ⟨RX0, TX0, 11, rfl, inX0, by decide, gx_mem 145 (by decide +kernel) (by decide +kernel)⟩
theorem kf_RX10_184 : gx_Fld RX10 184 0 7 := ⟨RX0, TX0, 11, rfl, inX0, by decide, gx_mem 148 (by decide +kernel) (by decide +kernel)⟩
theorem kc_RX10_187 : gx_MV RX10 187 yX0_landing cX0_landing 5 (some .int) 2 := ⟨kt_X0_landing, gx_mem 692 (by decide +kernel) (by decide +kernel), gx_mem 693 (by decide +kernel) (by decide +kernel), gx_mem 694 (by decide +kernel) (by decide +kernel)⟩
theorem kf_RX10_34 : gx_Fld RX10 34 8 4 := ⟨RX10, TX10, 11, rfl, inX10, by decide, gx_mem 367 (by decide +kernel) (by decide +kernel)⟩
theorem kt_X5_fewest : gx_Mt yX5_fewest cX5_fewest 4 (some .int) 2 := ⟨gx_mem 707 (by decide +kernel) (by decide +kernel), gx_mem 86 (by decide +kernel) (by decide +kernel), by decide +kernel, by decide⟩
theorem kc_RX10_194 : gx_MV RX10 194 yX5_fewest cX5_fewest 4 (some .int) 2 := ⟨kt_X5_fewest, gx_mem 704 (by decide +kernel) (by decide +kernel), gx_mem 705 (by decide +kernel) (by decide +kernel), gx_mem 706 (by decide +kernel) (by decide +kernel)⟩
theorem kt_X5_rowAt : gx_Mt yX5_rowAt cX5_rowAt 2 (some .int) 1 := ⟨gx_mem 718 (by decide +kernel) (by decide +kernel), gx_mem 86 (by decide +kernel) (by decide +kernel), by decide +kernel, by decide⟩
theorem kc_RX10_198 : gx_MV RX10 198 yX5_rowAt cX5_rowAt 2 (some .int) 1 := ⟨kt_X5_rowAt, gx_mem 715 (by decide +kernel) (by decide +kernel), gx_mem 716 (by decide +kernel) (by decide +kernel), gx_mem 717 (by decide +kernel) (by decide +kernel)⟩
theorem kt_X10_refuseByTen : gx_Mt yX10_refuseByTen cX10_refuseByTen 1 (some .int) 0 := ⟨gx_mem 703 (by decide +kernel) (by decide +kernel), gx_mem 78 (by decide +kernel) (by decide +kernel), by decide +kernel, by decide⟩
theorem kc_RX10_191 : gx_MV RX10 191 yX10_refuseByTen cX10_refuseByTen 1 (some .int) 0 := ⟨kt_X10_refuseByTen, gx_mem 700 (by decide +kernel) (by decide +kernel), gx_mem 702 (by decide +kernel) (by decide +kernel), gx_mem 20 (by decide +kernel) (by decide +kernel)⟩
theorem kt_X10_commonDivisor : gx_Mt yX10_commonDivisor cX10_commonDivisor 11 (some .long) 2 := ⟨gx_mem 754 (by decide +kernel) (by decide +kernel), gx_mem 78 (by decide +kernel) (by decide +kernel), by decide +kernel, by decide⟩
theorem kc_RX10_310 : gx_MS RX10 310 yX10_commonDivisor cX10_commonDivisor 11 (some .long) 2 := ⟨kt_X10_commonDivisor, gx_mem 752 (by decide +kernel) (by decide +kernel), gx_mem 753 (by decide +kernel) (by decide +kernel)⟩
theorem kt_X5_spread : gx_Mt yX5_spread cX5_spread 4 none 3 := ⟨gx_mem 727 (by decide +kernel) (by decide +kernel), gx_mem 86 (by decide +kernel) (by decide +kernel), by decide +kernel, by decide⟩
theorem kc_RX10_201 : gx_MV RX10 201 yX5_spread cX5_spread 4 none 3 := ⟨kt_X5_spread, gx_mem 724 (by decide +kernel) (by decide +kernel), gx_mem 725 (by decide +kernel) (by decide +kernel), gx_mem 726 (by decide +kernel) (by decide +kernel)⟩
theorem kc_RX10_205 : gx_MV RX10 205 yX5_rowsHome cX5_rowsHome 1 (some .int) 0 := ⟨kt_X5_rowsHome, gx_mem 743 (by decide +kernel) (by decide +kernel), gx_mem 744 (by decide +kernel) (by decide +kernel), gx_mem 745 (by decide +kernel) (by decide +kernel)⟩
theorem kc_RX10_208 : gx_MS RX10 208 yX10_power cX10_power 4 (some .int) 2 := ⟨kt_X10_power, gx_mem 747 (by decide +kernel) (by decide +kernel), gx_mem 737 (by decide +kernel) (by decide +kernel)⟩
theorem kt_X10_keepFraction : gx_Mt yX10_keepFraction cX10_keepFraction 7 (some .int) 2 := ⟨gx_mem 751 (by decide +kernel) (by decide +kernel), gx_mem 78 (by decide +kernel) (by decide +kernel), by decide +kernel, by decide⟩
theorem kc_RX10_211 : gx_MV RX10 211 yX10_keepFraction cX10_keepFraction 7 (some .int) 2 := ⟨kt_X10_keepFraction, gx_mem 748 (by decide +kernel) (by decide +kernel), gx_mem 750 (by decide +kernel) (by decide +kernel), gx_mem 23 (by decide +kernel) (by decide +kernel)⟩
theorem kt_X5_sumOfSquares : gx_Mt yX5_sumOfSquares cX5_sumOfSquares 4 (some .long) 0 := ⟨gx_mem 762 (by decide +kernel) (by decide +kernel), gx_mem 86 (by decide +kernel) (by decide +kernel), by decide +kernel, by decide⟩
theorem kc_RX10_215 : gx_MV RX10 215 yX5_sumOfSquares cX5_sumOfSquares 4 (some .long) 0 := ⟨kt_X5_sumOfSquares, gx_mem 759 (by decide +kernel) (by decide +kernel), gx_mem 760 (by decide +kernel) (by decide +kernel), gx_mem 761 (by decide +kernel) (by decide +kernel)⟩
theorem kt_X10_areUnlikePlayers : gx_Mt yX10_areUnlikePlayers cX10_areUnlikePlayers 3 (some .boolean) 2 := ⟨gx_mem 770 (by decide +kernel) (by decide +kernel), gx_mem 78 (by decide +kernel) (by decide +kernel), by decide +kernel, by decide⟩
theorem kc_RX10_219 : gx_MV RX10 219 yX10_areUnlikePlayers cX10_areUnlikePlayers 3 (some .boolean) 2 := ⟨kt_X10_areUnlikePlayers, gx_mem 767 (by decide +kernel) (by decide +kernel), gx_mem 769 (by decide +kernel) (by decide +kernel), gx_mem 24 (by decide +kernel) (by decide +kernel)⟩
theorem kt_X5_rowsAhead : gx_Mt yX5_rowsAhead cX5_rowsAhead 5 (some .int) 4 := ⟨gx_mem 774 (by decide +kernel) (by decide +kernel), gx_mem 86 (by decide +kernel) (by decide +kernel), by decide +kernel, by decide⟩
theorem kc_RX10_223 : gx_MV RX10 223 yX5_rowsAhead cX5_rowsAhead 5 (some .int) 4 := ⟨kt_X5_rowsAhead, gx_mem 771 (by decide +kernel) (by decide +kernel), gx_mem 772 (by decide +kernel) (by decide +kernel), gx_mem 773 (by decide +kernel) (by decide +kernel)⟩
theorem kt_X5_findBestSquare : gx_Mt yX5_findBestSquare cX5_findBestSquare 5 none 3 := ⟨gx_mem 785 (by decide +kernel) (by decide +kernel), gx_mem 86 (by decide +kernel) (by decide +kernel), by decide +kernel, by decide⟩
theorem kc_RX10_227 : gx_MV RX10 227 yX5_findBestSquare cX5_findBestSquare 5 none 3 := ⟨kt_X5_findBestSquare, gx_mem 782 (by decide +kernel) (by decide +kernel), gx_mem 783 (by decide +kernel) (by decide +kernel), gx_mem 784 (by decide +kernel) (by decide +kernel)⟩
theorem kf_RX10_233 : gx_Fld RX10 233 4 7 := ⟨RX5, TX5, 8, rfl, inX5, by decide, gx_mem 335 (by decide +kernel) (by decide +kernel)⟩
theorem kf_RX10_230 : gx_Fld RX10 230 4 6 := ⟨RX5, TX5, 8, rfl, inX5, by decide, gx_mem 333 (by decide +kernel) (by decide +kernel)⟩
theorem kt_X5_findWorstLink : gx_Mt yX5_findWorstLink cX5_findWorstLink 6 none 3 := ⟨gx_mem 794 (by decide +kernel) (by decide +kernel), gx_mem 86 (by decide +kernel) (by decide +kernel), by decide +kernel, by decide⟩
theorem kc_RX10_236 : gx_MV RX10 236 yX5_findWorstLink cX5_findWorstLink 6 none 3 := ⟨kt_X5_findWorstLink, gx_mem 791 (by decide +kernel) (by decide +kernel), gx_mem 792 (by decide +kernel) (by decide +kernel), gx_mem 793 (by decide +kernel) (by decide +kernel)⟩
theorem kt_X5_unlikeSquares : gx_Mt yX5_unlikeSquares cX5_unlikeSquares 3 (some .int) 0 := ⟨gx_mem 802 (by decide +kernel) (by decide +kernel), gx_mem 86 (by decide +kernel) (by decide +kernel), by decide +kernel, by decide⟩
theorem kc_RX10_239 : gx_MV RX10 239 yX5_unlikeSquares cX5_unlikeSquares 3 (some .int) 0 := ⟨kt_X5_unlikeSquares, gx_mem 799 (by decide +kernel) (by decide +kernel), gx_mem 800 (by decide +kernel) (by decide +kernel), gx_mem 801 (by decide +kernel) (by decide +kernel)⟩
theorem kt_X5_leastSquare : gx_Mt yX5_leastSquare cX5_leastSquare 2 (some .int) 0 := ⟨gx_mem 806 (by decide +kernel) (by decide +kernel), gx_mem 86 (by decide +kernel) (by decide +kernel), by decide +kernel, by decide⟩
theorem kc_RX10_242 : gx_MV RX10 242 yX5_leastSquare cX5_leastSquare 2 (some .int) 0 := ⟨kt_X5_leastSquare, gx_mem 803 (by decide +kernel) (by decide +kernel), gx_mem 804 (by decide +kernel) (by decide +kernel), gx_mem 805 (by decide +kernel) (by decide +kernel)⟩
theorem kt_X5_greatestSquare : gx_Mt yX5_greatestSquare cX5_greatestSquare 2 (some .int) 0 := ⟨gx_mem 810 (by decide +kernel) (by decide +kernel), gx_mem 86 (by decide +kernel) (by decide +kernel), by decide +kernel, by decide⟩
theorem kc_RX10_245 : gx_MV RX10 245 yX5_greatestSquare cX5_greatestSquare 2 (some .int) 0 := ⟨kt_X5_greatestSquare, gx_mem 807 (by decide +kernel) (by decide +kernel), gx_mem 808 (by decide +kernel) (by decide +kernel), gx_mem 809 (by decide +kernel) (by decide +kernel)⟩
theorem kf_RX10_248 : gx_Fld RX10 248 1 2 := ⟨RX1, TX1, 4, rfl, inX1, by decide, gx_mem 265 (by decide +kernel) (by decide +kernel)⟩
theorem kf_RX10_252 : gx_Fld RX10 252 5 0 := ⟨RX7, TX7, 5, rfl, inX7, by decide, gx_mem 240 (by decide +kernel) (by decide +kernel)⟩
theorem kt_X7_add : gx_Mt yX7_add cX7_add 5 (some .int) 4 := ⟨gx_mem 818 (by decide +kernel) (by decide +kernel), gx_mem 84 (by decide +kernel) (by decide +kernel), by decide +kernel, by decide⟩
theorem kc_RX10_255 : gx_MV RX10 255 yX7_add cX7_add 5 (some .int) 4 := ⟨kt_X7_add, gx_mem 815 (by decide +kernel) (by decide +kernel), gx_mem 816 (by decide +kernel) (by decide +kernel), gx_mem 817 (by decide +kernel) (by decide +kernel)⟩
theorem kf_RX10_259 : gx_Fld RX10 259 1 3 := ⟨RX1, TX1, 4, rfl, inX1, by decide, gx_mem 267 (by decide +kernel) (by decide +kernel)⟩
theorem kc_RX10_262 : gx_MV RX10 262 yX7_empty cX7_empty 2 (some .int) 0 := ⟨kt_X7_empty, gx_mem 827 (by decide +kernel) (by decide +kernel), gx_mem 417 (by decide +kernel) (by decide +kernel), gx_mem 418 (by decide +kernel) (by decide +kernel)⟩
theorem kf_RX10_41 : gx_Fld RX10 41 8 5 := ⟨RX10, TX10, 11, rfl, inX10, by decide, gx_mem 368 (by decide +kernel) (by decide +kernel)⟩
theorem kc_RX10_263 : gx_MV RX10 263 yX2_linkKinds cX2_linkKinds 6 (some .int) 3 := ⟨kt_X2_linkKinds, gx_mem 832 (by decide +kernel) (by decide +kernel), gx_mem 833 (by decide +kernel) (by decide +kernel), gx_mem 834 (by decide +kernel) (by decide +kernel)⟩
theorem kt_X2_bestLook : gx_Mt yX2_bestLook cX2_bestLook 10 (some .int) 3 := ⟨gx_mem 851 (by decide +kernel) (by decide +kernel), gx_mem 87 (by decide +kernel) (by decide +kernel), by decide +kernel, by decide⟩
theorem kc_RX10_267 : gx_MV RX10 267 yX2_bestLook cX2_bestLook 10 (some .int) 3 := ⟨kt_X2_bestLook, gx_mem 848 (by decide +kernel) (by decide +kernel), gx_mem 849 (by decide +kernel) (by decide +kernel), gx_mem 850 (by decide +kernel) (by decide +kernel)⟩
theorem kc_RX10_270 : gx_MV RX10 270 yX2_playerKinds cX2_playerKinds 6 (some .int) 3 := ⟨kt_X2_playerKinds, gx_mem 866 (by decide +kernel) (by decide +kernel), gx_mem 867 (by decide +kernel) (by decide +kernel), gx_mem 868 (by decide +kernel) (by decide +kernel)⟩
theorem kt_X2_bestAsk : gx_Mt yX2_bestAsk cX2_bestAsk 10 (some .int) 3 := ⟨gx_mem 881 (by decide +kernel) (by decide +kernel), gx_mem 87 (by decide +kernel) (by decide +kernel), by decide +kernel, by decide⟩
theorem kc_RX10_273 : gx_MV RX10 273 yX2_bestAsk cX2_bestAsk 10 (some .int) 3 := ⟨kt_X2_bestAsk, gx_mem 878 (by decide +kernel) (by decide +kernel), gx_mem 879 (by decide +kernel) (by decide +kernel), gx_mem 880 (by decide +kernel) (by decide +kernel)⟩
theorem kt_X5_weighPairs : gx_Mt yX5_weighPairs cX5_weighPairs 6 none 3 := ⟨gx_mem 890 (by decide +kernel) (by decide +kernel), gx_mem 86 (by decide +kernel) (by decide +kernel), by decide +kernel, by decide⟩
theorem kc_RX10_276 : gx_MV RX10 276 yX5_weighPairs cX5_weighPairs 6 none 3 := ⟨kt_X5_weighPairs, gx_mem 887 (by decide +kernel) (by decide +kernel), gx_mem 888 (by decide +kernel) (by decide +kernel), gx_mem 889 (by decide +kernel) (by decide +kernel)⟩
theorem kt_X5_restingPair : gx_Mt yX5_restingPair cX5_restingPair 5 (some .int) 1 := ⟨gx_mem 914 (by decide +kernel) (by decide +kernel), gx_mem 86 (by decide +kernel) (by decide +kernel), by decide +kernel, by decide⟩
theorem kc_RX10_282 : gx_MV RX10 282 yX5_restingPair cX5_restingPair 5 (some .int) 1 := ⟨kt_X5_restingPair, gx_mem 911 (by decide +kernel) (by decide +kernel), gx_mem 912 (by decide +kernel) (by decide +kernel), gx_mem 913 (by decide +kernel) (by decide +kernel)⟩
theorem kt_X5_restingPairs : gx_Mt yX5_restingPairs cX5_restingPairs 4 (some .int) 0 := ⟨gx_mem 906 (by decide +kernel) (by decide +kernel), gx_mem 86 (by decide +kernel) (by decide +kernel), by decide +kernel, by decide⟩
theorem kc_RX10_279 : gx_MV RX10 279 yX5_restingPairs cX5_restingPairs 4 (some .int) 0 := ⟨kt_X5_restingPairs, gx_mem 903 (by decide +kernel) (by decide +kernel), gx_mem 904 (by decide +kernel) (by decide +kernel), gx_mem 905 (by decide +kernel) (by decide +kernel)⟩
theorem kk_RX10_285 : Cond.constant RX10 285 999999 ∈ gx_tbl := gx_mem 919 (by decide +kernel) (by decide +kernel)
theorem kt_X5_homesBySeed : gx_Mt yX5_homesBySeed cX5_homesBySeed 8 (some .int) 3 := ⟨gx_mem 923 (by decide +kernel) (by decide +kernel), gx_mem 86 (by decide +kernel) (by decide +kernel), by decide +kernel, by decide⟩
theorem kc_RX10_286 : gx_MV RX10 286 yX5_homesBySeed cX5_homesBySeed 8 (some .int) 3 := ⟨kt_X5_homesBySeed, gx_mem 920 (by decide +kernel) (by decide +kernel), gx_mem 921 (by decide +kernel) (by decide +kernel), gx_mem 922 (by decide +kernel) (by decide +kernel)⟩
theorem kf_RX10_49 : gx_Fld RX10 49 8 7 := ⟨RX10, TX10, 11, rfl, inX10, by decide, gx_mem 370 (by decide +kernel) (by decide +kernel)⟩
theorem kf_RX10_45 : gx_Fld RX10 45 8 6 := ⟨RX10, TX10, 11, rfl, inX10, by decide, gx_mem 369 (by decide +kernel) (by decide +kernel)⟩
theorem kf_RX10_16 : gx_Fld RX10 16 8 1 := ⟨RX10, TX10, 11, rfl, inX10, by decide, gx_mem 364 (by decide +kernel) (by decide +kernel)⟩
theorem kt_X1_copy : gx_Mt yX1_copy cX1_copy 2 none 1 := ⟨gx_mem 944 (by decide +kernel) (by decide +kernel), gx_mem 79 (by decide +kernel) (by decide +kernel), by decide +kernel, by decide⟩
theorem kc_RX10_290 : gx_MV RX10 290 yX1_copy cX1_copy 2 none 1 := ⟨kt_X1_copy, gx_mem 941 (by decide +kernel) (by decide +kernel), gx_mem 942 (by decide +kernel) (by decide +kernel), gx_mem 943 (by decide +kernel) (by decide +kernel)⟩
theorem kf_RX10_20 : gx_Fld RX10 20 8 2 := ⟨RX10, TX10, 11, rfl, inX10, by decide, gx_mem 365 (by decide +kernel) (by decide +kernel)⟩
theorem kt_X0_thrownByAll : gx_Mt yX0_thrownByAll cX0_thrownByAll 3 (some .int) 0 := ⟨gx_mem 977 (by decide +kernel) (by decide +kernel), gx_mem 80 (by decide +kernel) (by decide +kernel), by decide +kernel, by decide⟩
theorem kc_RX10_304 : gx_MV RX10 304 yX0_thrownByAll cX0_thrownByAll 3 (some .int) 0 := ⟨kt_X0_thrownByAll, gx_mem 974 (by decide +kernel) (by decide +kernel), gx_mem 975 (by decide +kernel) (by decide +kernel), gx_mem 976 (by decide +kernel) (by decide +kernel)⟩
theorem kt_X0_usedOfAll : gx_Mt yX0_usedOfAll cX0_usedOfAll 3 (some .int) 0 := ⟨gx_mem 981 (by decide +kernel) (by decide +kernel), gx_mem 80 (by decide +kernel) (by decide +kernel), by decide +kernel, by decide⟩
theorem kc_RX10_307 : gx_MV RX10 307 yX0_usedOfAll cX0_usedOfAll 3 (some .int) 0 := ⟨kt_X0_usedOfAll, gx_mem 978 (by decide +kernel) (by decide +kernel), gx_mem 979 (by decide +kernel) (by decide +kernel), gx_mem 980 (by decide +kernel) (by decide +kernel)⟩
theorem kt_X10_amount : gx_Mt yX10_amount cX10_amount 3 (some .int) 1 := ⟨gx_mem 973 (by decide +kernel) (by decide +kernel), gx_mem 78 (by decide +kernel) (by decide +kernel), by decide +kernel, by decide⟩
theorem kc_RX10_293 : gx_MV RX10 293 yX10_amount cX10_amount 3 (some .int) 1 := ⟨kt_X10_amount, gx_mem 970 (by decide +kernel) (by decide +kernel), gx_mem 972 (by decide +kernel) (by decide +kernel), gx_mem 31 (by decide +kernel) (by decide +kernel)⟩
theorem kk_RX10_296 : Cond.constantLong RX10 296 1831 ∈ gx_tbl := gx_mem 986 (by decide +kernel) (by decide +kernel)
theorem kt_X1_digestOn : gx_Mt yX1_digestOn cX1_digestOn 6 (some .long) 1 := ⟨gx_mem 991 (by decide +kernel) (by decide +kernel), gx_mem 79 (by decide +kernel) (by decide +kernel), by decide +kernel, by decide⟩
theorem kc_RX10_300 : gx_MV RX10 300 yX1_digestOn cX1_digestOn 6 (some .long) 1 := ⟨kt_X1_digestOn, gx_mem 988 (by decide +kernel) (by decide +kernel), gx_mem 989 (by decide +kernel) (by decide +kernel), gx_mem 990 (by decide +kernel) (by decide +kernel)⟩
theorem kk_RX10_298 : Cond.constantLong RX10 298 31 ∈ gx_tbl := gx_mem 987 (by decide +kernel) (by decide +kernel)
theorem kk_RX11_1 : Cond.methodLink RX11 1 objectInit ∈ gx_tbl := gx_mem 1003 (by decide +kernel) (by decide +kernel)
theorem kp_RX11_7 : gx_FldP RX11 7 9 0 true (.array .int) := ⟨RX11, TX11, 14, rfl, inX11, by decide, gx_mem 1004 (by decide +kernel) (by decide +kernel), ⟨tyX11, tyX11_ok⟩, nmX11, rfl, by decide +kernel, fun _ => rfl⟩
theorem kp_RX11_13 : gx_FldP RX11 13 9 1 true (.array .boolean) := ⟨RX11, TX11, 14, rfl, inX11, by decide, gx_mem 1005 (by decide +kernel) (by decide +kernel), ⟨tyX11, tyX11_ok⟩, nmX11, rfl, by decide +kernel, fun _ => rfl⟩
theorem kp_RX11_17 : gx_FldP RX11 17 9 2 true (.array .int) := ⟨RX11, TX11, 14, rfl, inX11, by decide, gx_mem 1006 (by decide +kernel) (by decide +kernel), ⟨tyX11, tyX11_ok⟩, nmX11, rfl, by decide +kernel, fun _ => rfl⟩
theorem kp_RX11_20 : gx_FldP RX11 20 9 4 false .long := ⟨RX11, TX11, 14, rfl, inX11, by decide, gx_mem 1008 (by decide +kernel) (by decide +kernel), ⟨tyX11, tyX11_ok⟩, nmX11, rfl, by decide +kernel, fun q => by cases q⟩
theorem kp_RX11_24 : gx_FldP RX11 24 9 5 false .long := ⟨RX11, TX11, 14, rfl, inX11, by decide, gx_mem 1009 (by decide +kernel) (by decide +kernel), ⟨tyX11, tyX11_ok⟩, nmX11, rfl, by decide +kernel, fun q => by cases q⟩
theorem kp_RX11_27 : gx_FldP RX11 27 9 6 true (.array .int) := ⟨RX11, TX11, 14, rfl, inX11, by decide, gx_mem 1010 (by decide +kernel) (by decide +kernel), ⟨tyX11, tyX11_ok⟩, nmX11, rfl, by decide +kernel, fun _ => rfl⟩
theorem kp_RX11_30 : gx_FldP RX11 30 9 10 true (.array .boolean) := ⟨RX11, TX11, 14, rfl, inX11, by decide, gx_mem 1014 (by decide +kernel) (by decide +kernel), ⟨tyX11, tyX11_ok⟩, nmX11, rfl, by decide +kernel, fun _ => rfl⟩
theorem kp_RX11_33 : gx_FldP RX11 33 9 11 true (.array .int) := ⟨RX11, TX11, 14, rfl, inX11, by decide, gx_mem 1015 (by decide +kernel) (by decide +kernel), ⟨tyX11, tyX11_ok⟩, nmX11, rfl, by decide +kernel, fun _ => rfl⟩
theorem kp_RX11_36 : gx_FldP RX11 36 9 12 true (.array .int) := ⟨RX11, TX11, 14, rfl, inX11, by decide, gx_mem 1016 (by decide +kernel) (by decide +kernel), ⟨tyX11, tyX11_ok⟩, nmX11, rfl, by decide +kernel, fun _ => rfl⟩
theorem kf_RX11_7 : gx_Fld RX11 7 9 0 := ⟨RX11, TX11, 14, rfl, inX11, by decide, gx_mem 1004 (by decide +kernel) (by decide +kernel)⟩
theorem kf_RX11_27 : gx_Fld RX11 27 9 6 := ⟨RX11, TX11, 14, rfl, inX11, by decide, gx_mem 1010 (by decide +kernel) (by decide +kernel)⟩
theorem kt_X11_in : gx_Mt yX11_in cX11_in 6 (some .boolean) 3 := ⟨gx_mem 1055 (by decide +kernel) (by decide +kernel), gx_mem 88 (by decide +kernel) (by decide +kernel), by decide +kernel, by decide⟩
theorem kc_RX11_39 : gx_MS RX11 39 yX11_in cX11_in 6 (some .boolean) 3 := ⟨kt_X11_in, gx_mem 1053 (by decide +kernel) (by decide +kernel), gx_mem 1054 (by decide +kernel) (by decide +kernel)⟩
theorem kt_X11_plain : gx_Mt yX11_plain cX11_plain 3 (some .int) 3 := ⟨gx_mem 1188 (by decide +kernel) (by decide +kernel), gx_mem 88 (by decide +kernel) (by decide +kernel), by decide +kernel, by decide⟩
theorem kc_RX11_43 : gx_MS RX11 43 yX11_plain cX11_plain 3 (some .int) 3 := ⟨kt_X11_plain, gx_mem 1186 (by decide +kernel) (by decide +kernel), gx_mem 1187 (by decide +kernel) (by decide +kernel)⟩
theorem kt_X11_timid : gx_Mt yX11_timid cX11_timid 3 (some .int) 3 := ⟨gx_mem 1185 (by decide +kernel) (by decide +kernel), gx_mem 88 (by decide +kernel) (by decide +kernel), by decide +kernel, by decide⟩
theorem kc_RX11_47 : gx_MS RX11 47 yX11_timid cX11_timid 3 (some .int) 3 := ⟨kt_X11_timid, gx_mem 1183 (by decide +kernel) (by decide +kernel), gx_mem 1184 (by decide +kernel) (by decide +kernel)⟩
theorem kt_X11_cheat : gx_Mt yX11_cheat cX11_cheat 3 (some .int) 3 := ⟨gx_mem 1191 (by decide +kernel) (by decide +kernel), gx_mem 88 (by decide +kernel) (by decide +kernel), by decide +kernel, by decide⟩
theorem kc_RX11_50 : gx_MS RX11 50 yX11_cheat cX11_cheat 3 (some .int) 3 := ⟨kt_X11_cheat, gx_mem 1189 (by decide +kernel) (by decide +kernel), gx_mem 1190 (by decide +kernel) (by decide +kernel)⟩
theorem kt_X11_greased : gx_Mt yX11_greased cX11_greased 1 (some .int) 1 := ⟨gx_mem 1197 (by decide +kernel) (by decide +kernel), gx_mem 88 (by decide +kernel) (by decide +kernel), by decide +kernel, by decide⟩
theorem kc_RX11_53 : gx_MS RX11 53 yX11_greased cX11_greased 1 (some .int) 1 := ⟨kt_X11_greased, gx_mem 1195 (by decide +kernel) (by decide +kernel), gx_mem 1196 (by decide +kernel) (by decide +kernel)⟩
theorem kt_X11_isHome : gx_Mt yX11_isHome cX11_isHome 3 (some .boolean) 2 := ⟨gx_mem 1175 (by decide +kernel) (by decide +kernel), gx_mem 88 (by decide +kernel) (by decide +kernel), by decide +kernel, by decide⟩
theorem kc_RX11_57 : gx_MV RX11 57 yX11_isHome cX11_isHome 3 (some .boolean) 2 := ⟨kt_X11_isHome, gx_mem 1172 (by decide +kernel) (by decide +kernel), gx_mem 1174 (by decide +kernel) (by decide +kernel), gx_mem 53 (by decide +kernel) (by decide +kernel)⟩
theorem kt_X11_goesBy : gx_Mt yX11_goesBy cX11_goesBy 4 (some .int) 4 := ⟨gx_mem 1182 (by decide +kernel) (by decide +kernel), gx_mem 88 (by decide +kernel) (by decide +kernel), by decide +kernel, by decide⟩
theorem kc_RX11_61 : gx_MS RX11 61 yX11_goesBy cX11_goesBy 4 (some .int) 4 := ⟨kt_X11_goesBy, gx_mem 1180 (by decide +kernel) (by decide +kernel), gx_mem 1181 (by decide +kernel) (by decide +kernel)⟩
theorem kt_X11_linkFrom : gx_Mt yX11_linkFrom cX11_linkFrom 4 (some .int) 2 := ⟨gx_mem 1082 (by decide +kernel) (by decide +kernel), gx_mem 88 (by decide +kernel) (by decide +kernel), by decide +kernel, by decide⟩
theorem kc_RX11_65 : gx_MV RX11 65 yX11_linkFrom cX11_linkFrom 4 (some .int) 2 := ⟨kt_X11_linkFrom, gx_mem 1079 (by decide +kernel) (by decide +kernel), gx_mem 1081 (by decide +kernel) (by decide +kernel), gx_mem 35 (by decide +kernel) (by decide +kernel)⟩
theorem kt_X11_leadsBy : gx_Mt yX11_leadsBy cX11_leadsBy 6 (some .int) 6 := ⟨gx_mem 1194 (by decide +kernel) (by decide +kernel), gx_mem 88 (by decide +kernel) (by decide +kernel), by decide +kernel, by decide⟩
theorem kc_RX11_69 : gx_MS RX11 69 yX11_leadsBy cX11_leadsBy 6 (some .int) 6 := ⟨kt_X11_leadsBy, gx_mem 1192 (by decide +kernel) (by decide +kernel), gx_mem 1193 (by decide +kernel) (by decide +kernel)⟩
theorem kk_RX11_73 : Cond.constantLong RX11 73 10 ∈ gx_tbl := gx_mem 1051 (by decide +kernel) (by decide +kernel)
theorem kk_RX11_75 : Cond.constantLong RX11 75 40 ∈ gx_tbl := gx_mem 1052 (by decide +kernel) (by decide +kernel)
theorem kk_RX11_77 : Cond.constantLong RX11 77 2 ∈ gx_tbl := gx_mem 1056 (by decide +kernel) (by decide +kernel)
theorem kk_RX11_79 : Cond.constantLong RX11 79 6 ∈ gx_tbl := gx_mem 1057 (by decide +kernel) (by decide +kernel)
theorem kt_X11_empties : gx_Mt yX11_empties cX11_empties 3 none 1 := ⟨gx_mem 1065 (by decide +kernel) (by decide +kernel), gx_mem 88 (by decide +kernel) (by decide +kernel), by decide +kernel, by decide⟩
theorem kc_RX11_84 : gx_MV RX11 84 yX11_empties cX11_empties 3 none 1 := ⟨kt_X11_empties, gx_mem 1062 (by decide +kernel) (by decide +kernel), gx_mem 1064 (by decide +kernel) (by decide +kernel), gx_mem 33 (by decide +kernel) (by decide +kernel)⟩
theorem kt_X11_bad : gx_Mt yX11_bad cX11_bad 2 (some .int) 1 := ⟨gx_mem 1061 (by decide +kernel) (by decide +kernel), gx_mem 88 (by decide +kernel) (by decide +kernel), by decide +kernel, by decide⟩
theorem kc_RX11_81 : gx_MV RX11 81 yX11_bad cX11_bad 2 (some .int) 1 := ⟨kt_X11_bad, gx_mem 1058 (by decide +kernel) (by decide +kernel), gx_mem 1060 (by decide +kernel) (by decide +kernel), gx_mem 32 (by decide +kernel) (by decide +kernel)⟩
theorem kk_RX11_88 : Cond.constantLong RX11 88 5 ∈ gx_tbl := gx_mem 1074 (by decide +kernel) (by decide +kernel)
theorem kt_X11_isSquare : gx_Mt yX11_isSquare cX11_isSquare 2 (some .boolean) 1 := ⟨gx_mem 1078 (by decide +kernel) (by decide +kernel), gx_mem 88 (by decide +kernel) (by decide +kernel), by decide +kernel, by decide⟩
theorem kc_RX11_90 : gx_MV RX11 90 yX11_isSquare cX11_isSquare 2 (some .boolean) 1 := ⟨kt_X11_isSquare, gx_mem 1075 (by decide +kernel) (by decide +kernel), gx_mem 1077 (by decide +kernel) (by decide +kernel), gx_mem 34 (by decide +kernel) (by decide +kernel)⟩
theorem kt_X11_addsLink : gx_Mt yX11_addsLink cX11_addsLink 6 none 4 := ⟨gx_mem 1094 (by decide +kernel) (by decide +kernel), gx_mem 88 (by decide +kernel) (by decide +kernel), by decide +kernel, by decide⟩
theorem kc_RX11_101 : gx_MV RX11 101 yX11_addsLink cX11_addsLink 6 none 4 := ⟨kt_X11_addsLink, gx_mem 1091 (by decide +kernel) (by decide +kernel), gx_mem 1093 (by decide +kernel) (by decide +kernel), gx_mem 38 (by decide +kernel) (by decide +kernel)⟩
theorem kt_X11_full : gx_Mt yX11_full cX11_full 1 (some .int) 0 := ⟨gx_mem 1090 (by decide +kernel) (by decide +kernel), gx_mem 88 (by decide +kernel) (by decide +kernel), by decide +kernel, by decide⟩
theorem kc_RX11_98 : gx_MV RX11 98 yX11_full cX11_full 1 (some .int) 0 := ⟨kt_X11_full, gx_mem 1087 (by decide +kernel) (by decide +kernel), gx_mem 1089 (by decide +kernel) (by decide +kernel), gx_mem 37 (by decide +kernel) (by decide +kernel)⟩
theorem kt_X11_no : gx_Mt yX11_no cX11_no 1 (some .int) 0 := ⟨gx_mem 1086 (by decide +kernel) (by decide +kernel), gx_mem 88 (by decide +kernel) (by decide +kernel), by decide +kernel, by decide⟩
theorem kc_RX11_94 : gx_MV RX11 94 yX11_no cX11_no 1 (some .int) 0 := ⟨kt_X11_no, gx_mem 1083 (by decide +kernel) (by decide +kernel), gx_mem 1085 (by decide +kernel) (by decide +kernel), gx_mem 36 (by decide +kernel) (by decide +kernel)⟩
theorem kt_X11_addsPlayer : gx_Mt yX11_addsPlayer cX11_addsPlayer 4 none 2 := ⟨gx_mem 1102 (by decide +kernel) (by decide +kernel), gx_mem 88 (by decide +kernel) (by decide +kernel), by decide +kernel, by decide⟩
theorem kc_RX11_105 : gx_MV RX11 105 yX11_addsPlayer cX11_addsPlayer 4 none 2 := ⟨kt_X11_addsPlayer, gx_mem 1099 (by decide +kernel) (by decide +kernel), gx_mem 1101 (by decide +kernel) (by decide +kernel), gx_mem 39 (by decide +kernel) (by decide +kernel)⟩
theorem kk_RX11_109 : Cond.constantLong RX11 109 127 ∈ gx_tbl := gx_mem 1107 (by decide +kernel) (by decide +kernel)
theorem kf_RX11_111 : gx_Fld RX11 111 9 3 := ⟨RX11, TX11, 14, rfl, inX11, by decide, gx_mem 1007 (by decide +kernel) (by decide +kernel)⟩
theorem kf_RX11_17 : gx_Fld RX11 17 9 2 := ⟨RX11, TX11, 14, rfl, inX11, by decide, gx_mem 1006 (by decide +kernel) (by decide +kernel)⟩
theorem kp_RX11_111 : gx_FldP RX11 111 9 3 false .int := ⟨RX11, TX11, 14, rfl, inX11, by decide, gx_mem 1007 (by decide +kernel) (by decide +kernel), ⟨tyX11, tyX11_ok⟩, nmX11, rfl, by decide +kernel, fun q => by cases q⟩
theorem kf_RX11_115 : gx_Fld RX11 115 9 7 := ⟨RX11, TX11, 14, rfl, inX11, by decide, gx_mem 1011 (by decide +kernel) (by decide +kernel)⟩
theorem kt_X11_byteAt : gx_Mt yX11_byteAt cX11_byteAt 2 (some .int) 1 := ⟨gx_mem 1123 (by decide +kernel) (by decide +kernel), gx_mem 88 (by decide +kernel) (by decide +kernel), by decide +kernel, by decide⟩
theorem kc_RX11_118 : gx_MV RX11 118 yX11_byteAt cX11_byteAt 2 (some .int) 1 := ⟨kt_X11_byteAt, gx_mem 1120 (by decide +kernel) (by decide +kernel), gx_mem 1122 (by decide +kernel) (by decide +kernel), gx_mem 41 (by decide +kernel) (by decide +kernel)⟩
theorem kp_RX11_121 : gx_FldP RX11 121 9 8 false .int := ⟨RX11, TX11, 14, rfl, inX11, by decide, gx_mem 1012 (by decide +kernel) (by decide +kernel), ⟨tyX11, tyX11_ok⟩, nmX11, rfl, by decide +kernel, fun q => by cases q⟩
theorem kp_RX11_115 : gx_FldP RX11 115 9 7 false .int := ⟨RX11, TX11, 14, rfl, inX11, by decide, gx_mem 1011 (by decide +kernel) (by decide +kernel), ⟨tyX11, tyX11_ok⟩, nmX11, rfl, by decide +kernel, fun q => by cases q⟩
theorem kt_X11_blanks : gx_Mt yX11_blanks cX11_blanks 1 none 0 := ⟨gx_mem 1119 (by decide +kernel) (by decide +kernel), gx_mem 88 (by decide +kernel) (by decide +kernel), by decide +kernel, by decide⟩
theorem kc_RX11_124 : gx_MV RX11 124 yX11_blanks cX11_blanks 1 none 0 := ⟨kt_X11_blanks, gx_mem 1116 (by decide +kernel) (by decide +kernel), gx_mem 1118 (by decide +kernel) (by decide +kernel), gx_mem 40 (by decide +kernel) (by decide +kernel)⟩
theorem kk_RX11_127 : Cond.constantLong RX11 127 97 ∈ gx_tbl := gx_mem 1132 (by decide +kernel) (by decide +kernel)
theorem kk_RX11_129 : Cond.constantLong RX11 129 122 ∈ gx_tbl := gx_mem 1133 (by decide +kernel) (by decide +kernel)
theorem kf_RX11_121 : gx_Fld RX11 121 9 8 := ⟨RX11, TX11, 14, rfl, inX11, by decide, gx_mem 1012 (by decide +kernel) (by decide +kernel)⟩
theorem kt_X11_isLetter : gx_Mt yX11_isLetter cX11_isLetter 4 (some .boolean) 3 := ⟨gx_mem 1145 (by decide +kernel) (by decide +kernel), gx_mem 88 (by decide +kernel) (by decide +kernel), by decide +kernel, by decide⟩
theorem kc_RX11_131 : gx_MV RX11 131 yX11_isLetter cX11_isLetter 4 (some .boolean) 3 := ⟨kt_X11_isLetter, gx_mem 1142 (by decide +kernel) (by decide +kernel), gx_mem 1144 (by decide +kernel) (by decide +kernel), gx_mem 46 (by decide +kernel) (by decide +kernel)⟩
theorem kt_X11_isWord : gx_Mt yX11_isWord cX11_isWord 8 (some .boolean) 6 := ⟨gx_mem 1141 (by decide +kernel) (by decide +kernel), gx_mem 88 (by decide +kernel) (by decide +kernel), by decide +kernel, by decide⟩
theorem kc_RX11_135 : gx_MV RX11 135 yX11_isWord cX11_isWord 8 (some .boolean) 6 := ⟨kt_X11_isWord, gx_mem 1138 (by decide +kernel) (by decide +kernel), gx_mem 1140 (by decide +kernel) (by decide +kernel), gx_mem 45 (by decide +kernel) (by decide +kernel)⟩
theorem kp_RX11_139 : gx_FldP RX11 139 9 9 false .int := ⟨RX11, TX11, 14, rfl, inX11, by decide, gx_mem 1013 (by decide +kernel) (by decide +kernel), ⟨tyX11, tyX11_ok⟩, nmX11, rfl, by decide +kernel, fun q => by cases q⟩
theorem kk_RX11_142 : Cond.constantLong RX11 142 48 ∈ gx_tbl := gx_mem 1154 (by decide +kernel) (by decide +kernel)
theorem kk_RX11_144 : Cond.constantLong RX11 144 57 ∈ gx_tbl := gx_mem 1155 (by decide +kernel) (by decide +kernel)
theorem kf_RX11_139 : gx_Fld RX11 139 9 9 := ⟨RX11, TX11, 14, rfl, inX11, by decide, gx_mem 1013 (by decide +kernel) (by decide +kernel)⟩
theorem kt_X11_takesNumber : gx_Mt yX11_takesNumber cX11_takesNumber 3 (some .boolean) 2 := ⟨gx_mem 1153 (by decide +kernel) (by decide +kernel), gx_mem 88 (by decide +kernel) (by decide +kernel), by decide +kernel, by decide⟩
theorem kc_RX11_146 : gx_MV RX11 146 yX11_takesNumber cX11_takesNumber 3 (some .boolean) 2 := ⟨kt_X11_takesNumber, gx_mem 1150 (by decide +kernel) (by decide +kernel), gx_mem 1152 (by decide +kernel) (by decide +kernel), gx_mem 48 (by decide +kernel) (by decide +kernel)⟩
theorem kt_X11_throwsOne : gx_Mt yX11_throwsOne cX11_throwsOne 8 none 3 := ⟨gx_mem 1179 (by decide +kernel) (by decide +kernel), gx_mem 88 (by decide +kernel) (by decide +kernel), by decide +kernel, by decide⟩
theorem kc_RX11_149 : gx_MV RX11 149 yX11_throwsOne cX11_throwsOne 8 none 3 := ⟨kt_X11_throwsOne, gx_mem 1176 (by decide +kernel) (by decide +kernel), gx_mem 1178 (by decide +kernel) (by decide +kernel), gx_mem 54 (by decide +kernel) (by decide +kernel)⟩
theorem kt_X11_takesWord : gx_Mt yX11_takesWord cX11_takesWord 1 none 0 := ⟨gx_mem 1131 (by decide +kernel) (by decide +kernel), gx_mem 88 (by decide +kernel) (by decide +kernel), by decide +kernel, by decide⟩
theorem kc_RX11_153 : gx_MV RX11 153 yX11_takesWord cX11_takesWord 1 none 0 := ⟨kt_X11_takesWord, gx_mem 1128 (by decide +kernel) (by decide +kernel), gx_mem 1130 (by decide +kernel) (by decide +kernel), gx_mem 43 (by decide +kernel) (by decide +kernel)⟩
theorem kt_X11_wordOf : gx_Mt yX11_wordOf cX11_wordOf 1 (some .int) 0 := ⟨gx_mem 1137 (by decide +kernel) (by decide +kernel), gx_mem 88 (by decide +kernel) (by decide +kernel), by decide +kernel, by decide⟩
theorem kc_RX11_156 : gx_MV RX11 156 yX11_wordOf cX11_wordOf 1 (some .int) 0 := ⟨kt_X11_wordOf, gx_mem 1134 (by decide +kernel) (by decide +kernel), gx_mem 1136 (by decide +kernel) (by decide +kernel), gx_mem 44 (by decide +kernel) (by decide +kernel)⟩
theorem kt_X11_readsThrows : gx_Mt yX11_readsThrows cX11_readsThrows 4 (some .boolean) 0 := ⟨gx_mem 1171 (by decide +kernel) (by decide +kernel), gx_mem 88 (by decide +kernel) (by decide +kernel), by decide +kernel, by decide⟩
theorem kc_RX11_172 : gx_MV RX11 172 yX11_readsThrows cX11_readsThrows 4 (some .boolean) 0 := ⟨kt_X11_readsThrows, gx_mem 1168 (by decide +kernel) (by decide +kernel), gx_mem 1170 (by decide +kernel) (by decide +kernel), gx_mem 52 (by decide +kernel) (by decide +kernel)⟩
theorem kt_X11_readsSet : gx_Mt yX11_readsSet cX11_readsSet 2 (some .boolean) 0 := ⟨gx_mem 1167 (by decide +kernel) (by decide +kernel), gx_mem 88 (by decide +kernel) (by decide +kernel), by decide +kernel, by decide⟩
theorem kc_RX11_169 : gx_MV RX11 169 yX11_readsSet cX11_readsSet 2 (some .boolean) 0 := ⟨kt_X11_readsSet, gx_mem 1164 (by decide +kernel) (by decide +kernel), gx_mem 1166 (by decide +kernel) (by decide +kernel), gx_mem 51 (by decide +kernel) (by decide +kernel)⟩
theorem kt_X11_readsPlayer : gx_Mt yX11_readsPlayer cX11_readsPlayer 1 (some .boolean) 0 := ⟨gx_mem 1163 (by decide +kernel) (by decide +kernel), gx_mem 88 (by decide +kernel) (by decide +kernel), by decide +kernel, by decide⟩
theorem kc_RX11_166 : gx_MV RX11 166 yX11_readsPlayer cX11_readsPlayer 1 (some .boolean) 0 := ⟨kt_X11_readsPlayer, gx_mem 1160 (by decide +kernel) (by decide +kernel), gx_mem 1162 (by decide +kernel) (by decide +kernel), gx_mem 50 (by decide +kernel) (by decide +kernel)⟩
theorem kt_X11_readsLink : gx_Mt yX11_readsLink cX11_readsLink 3 (some .boolean) 0 := ⟨gx_mem 1159 (by decide +kernel) (by decide +kernel), gx_mem 88 (by decide +kernel) (by decide +kernel), by decide +kernel, by decide⟩
theorem kc_RX11_163 : gx_MV RX11 163 yX11_readsLink cX11_readsLink 3 (some .boolean) 0 := ⟨kt_X11_readsLink, gx_mem 1156 (by decide +kernel) (by decide +kernel), gx_mem 1158 (by decide +kernel) (by decide +kernel), gx_mem 49 (by decide +kernel) (by decide +kernel)⟩
theorem kt_X11_readsBoard : gx_Mt yX11_readsBoard cX11_readsBoard 1 (some .boolean) 0 := ⟨gx_mem 1149 (by decide +kernel) (by decide +kernel), gx_mem 88 (by decide +kernel) (by decide +kernel), by decide +kernel, by decide⟩
theorem kc_RX11_159 : gx_MV RX11 159 yX11_readsBoard cX11_readsBoard 1 (some .boolean) 0 := ⟨kt_X11_readsBoard, gx_mem 1146 (by decide +kernel) (by decide +kernel), gx_mem 1148 (by decide +kernel) (by decide +kernel), gx_mem 47 (by decide +kernel) (by decide +kernel)⟩
theorem kt_X11_takesEnd : gx_Mt yX11_takesEnd cX11_takesEnd 1 (some .boolean) 0 := ⟨gx_mem 1201 (by decide +kernel) (by decide +kernel), gx_mem 88 (by decide +kernel) (by decide +kernel), by decide +kernel, by decide⟩
theorem kc_RX11_175 : gx_MV RX11 175 yX11_takesEnd cX11_takesEnd 1 (some .boolean) 0 := ⟨kt_X11_takesEnd, gx_mem 1198 (by decide +kernel) (by decide +kernel), gx_mem 1200 (by decide +kernel) (by decide +kernel), gx_mem 55 (by decide +kernel) (by decide +kernel)⟩
theorem kt_X11_copy : gx_Mt yX11_copy cX11_copy 4 none 2 := ⟨gx_mem 1205 (by decide +kernel) (by decide +kernel), gx_mem 88 (by decide +kernel) (by decide +kernel), by decide +kernel, by decide⟩
theorem kc_RX11_182 : gx_MV RX11 182 yX11_copy cX11_copy 4 none 2 := ⟨kt_X11_copy, gx_mem 1202 (by decide +kernel) (by decide +kernel), gx_mem 1204 (by decide +kernel) (by decide +kernel), gx_mem 56 (by decide +kernel) (by decide +kernel)⟩
theorem kt_X11_readsItem : gx_Mt yX11_readsItem cX11_readsItem 4 (some .boolean) 1 := ⟨gx_mem 1127 (by decide +kernel) (by decide +kernel), gx_mem 88 (by decide +kernel) (by decide +kernel), by decide +kernel, by decide⟩
theorem kc_RX11_178 : gx_MV RX11 178 yX11_readsItem cX11_readsItem 4 (some .boolean) 1 := ⟨kt_X11_readsItem, gx_mem 1124 (by decide +kernel) (by decide +kernel), gx_mem 1126 (by decide +kernel) (by decide +kernel), gx_mem 42 (by decide +kernel) (by decide +kernel)⟩
theorem kt_X11_isPlayer : gx_Mt yX11_isPlayer cX11_isPlayer 2 (some .boolean) 1 := ⟨gx_mem 1213 (by decide +kernel) (by decide +kernel), gx_mem 88 (by decide +kernel) (by decide +kernel), by decide +kernel, by decide⟩
theorem kc_RX11_185 : gx_MV RX11 185 yX11_isPlayer cX11_isPlayer 2 (some .boolean) 1 := ⟨kt_X11_isPlayer, gx_mem 1210 (by decide +kernel) (by decide +kernel), gx_mem 1212 (by decide +kernel) (by decide +kernel), gx_mem 57 (by decide +kernel) (by decide +kernel)⟩
theorem kt_X11_isSide : gx_Mt yX11_isSide cX11_isSide 2 (some .boolean) 1 := ⟨gx_mem 1217 (by decide +kernel) (by decide +kernel), gx_mem 88 (by decide +kernel) (by decide +kernel), by decide +kernel, by decide⟩
theorem kc_RX11_188 : gx_MV RX11 188 yX11_isSide cX11_isSide 2 (some .boolean) 1 := ⟨kt_X11_isSide, gx_mem 1214 (by decide +kernel) (by decide +kernel), gx_mem 1216 (by decide +kernel) (by decide +kernel), gx_mem 58 (by decide +kernel) (by decide +kernel)⟩
theorem kt_X11_minds : gx_Mt yX11_minds cX11_minds 3 none 0 := ⟨gx_mem 1221 (by decide +kernel) (by decide +kernel), gx_mem 88 (by decide +kernel) (by decide +kernel), by decide +kernel, by decide⟩
theorem kc_RX11_191 : gx_MV RX11 191 yX11_minds cX11_minds 3 none 0 := ⟨kt_X11_minds, gx_mem 1218 (by decide +kernel) (by decide +kernel), gx_mem 1220 (by decide +kernel) (by decide +kernel), gx_mem 59 (by decide +kernel) (by decide +kernel)⟩
theorem kt_X11_homes : gx_Mt yX11_homes cX11_homes 4 (some .int) 1 := ⟨gx_mem 1233 (by decide +kernel) (by decide +kernel), gx_mem 88 (by decide +kernel) (by decide +kernel), by decide +kernel, by decide⟩
theorem kc_RX11_194 : gx_MV RX11 194 yX11_homes cX11_homes 4 (some .int) 1 := ⟨kt_X11_homes, gx_mem 1230 (by decide +kernel) (by decide +kernel), gx_mem 1232 (by decide +kernel) (by decide +kernel), gx_mem 60 (by decide +kernel) (by decide +kernel)⟩
theorem kt_X11_isLink : gx_Mt yX11_isLink cX11_isLink 2 (some .boolean) 1 := ⟨gx_mem 1245 (by decide +kernel) (by decide +kernel), gx_mem 88 (by decide +kernel) (by decide +kernel), by decide +kernel, by decide⟩
theorem kc_RX11_197 : gx_MV RX11 197 yX11_isLink cX11_isLink 2 (some .boolean) 1 := ⟨kt_X11_isLink, gx_mem 1242 (by decide +kernel) (by decide +kernel), gx_mem 1244 (by decide +kernel) (by decide +kernel), gx_mem 61 (by decide +kernel) (by decide +kernel)⟩
theorem kk_RX11_200 : Cond.constantLong RX11 200 3 ∈ gx_tbl := gx_mem 1246 (by decide +kernel) (by decide +kernel)
theorem kt_X11_rowsOf : gx_Mt yX11_rowsOf cX11_rowsOf 4 (some .int) 1 := ⟨gx_mem 1266 (by decide +kernel) (by decide +kernel), gx_mem 88 (by decide +kernel) (by decide +kernel), by decide +kernel, by decide⟩
theorem kc_RX11_202 : gx_MV RX11 202 yX11_rowsOf cX11_rowsOf 4 (some .int) 1 := ⟨kt_X11_rowsOf, gx_mem 1263 (by decide +kernel) (by decide +kernel), gx_mem 1265 (by decide +kernel) (by decide +kernel), gx_mem 64 (by decide +kernel) (by decide +kernel)⟩
theorem kt_X11_rollsTried : gx_Mt yX11_rollsTried cX11_rollsTried 3 none 2 := ⟨gx_mem 1258 (by decide +kernel) (by decide +kernel), gx_mem 88 (by decide +kernel) (by decide +kernel), by decide +kernel, by decide⟩
theorem kc_RX11_205 : gx_MV RX11 205 yX11_rollsTried cX11_rollsTried 3 none 2 := ⟨kt_X11_rollsTried, gx_mem 1255 (by decide +kernel) (by decide +kernel), gx_mem 1257 (by decide +kernel) (by decide +kernel), gx_mem 63 (by decide +kernel) (by decide +kernel)⟩
theorem kt_X11_tries : gx_Mt yX11_tries cX11_tries 2 none 0 := ⟨gx_mem 1254 (by decide +kernel) (by decide +kernel), gx_mem 88 (by decide +kernel) (by decide +kernel), by decide +kernel, by decide⟩
theorem kc_RX11_208 : gx_MV RX11 208 yX11_tries cX11_tries 2 none 0 := ⟨kt_X11_tries, gx_mem 1251 (by decide +kernel) (by decide +kernel), gx_mem 1253 (by decide +kernel) (by decide +kernel), gx_mem 62 (by decide +kernel) (by decide +kernel)⟩
theorem kt_X11_plays : gx_Mt yX11_plays cX11_plays 6 none 3 := ⟨gx_mem 1270 (by decide +kernel) (by decide +kernel), gx_mem 88 (by decide +kernel) (by decide +kernel), by decide +kernel, by decide⟩
theorem kc_RX11_211 : gx_MV RX11 211 yX11_plays cX11_plays 6 none 3 := ⟨kt_X11_plays, gx_mem 1267 (by decide +kernel) (by decide +kernel), gx_mem 1269 (by decide +kernel) (by decide +kernel), gx_mem 65 (by decide +kernel) (by decide +kernel)⟩
theorem kt_X11_told : gx_Mt yX11_told cX11_told 11 (some .int) 2 := ⟨gx_mem 1278 (by decide +kernel) (by decide +kernel), gx_mem 88 (by decide +kernel) (by decide +kernel), by decide +kernel, by decide⟩
theorem kc_RX11_214 : gx_MV RX11 214 yX11_told cX11_told 11 (some .int) 2 := ⟨kt_X11_told, gx_mem 1275 (by decide +kernel) (by decide +kernel), gx_mem 1277 (by decide +kernel) (by decide +kernel), gx_mem 66 (by decide +kernel) (by decide +kernel)⟩
theorem kk_RX11_218 : Cond.constantLong RX11 218 4 ∈ gx_tbl := gx_mem 1291 (by decide +kernel) (by decide +kernel)
theorem kf_RX11_30 : gx_Fld RX11 30 9 10 := ⟨RX11, TX11, 14, rfl, inX11, by decide, gx_mem 1014 (by decide +kernel) (by decide +kernel)⟩
theorem kk_RX11_220 : Cond.constantLong RX11 220 9 ∈ gx_tbl := gx_mem 1304 (by decide +kernel) (by decide +kernel)
theorem kt_X11_keeps : gx_Mt yX11_keeps cX11_keeps 6 none 5 := ⟨gx_mem 1308 (by decide +kernel) (by decide +kernel), gx_mem 88 (by decide +kernel) (by decide +kernel), by decide +kernel, by decide⟩
theorem kc_RX11_222 : gx_MV RX11 222 yX11_keeps cX11_keeps 6 none 5 := ⟨kt_X11_keeps, gx_mem 1305 (by decide +kernel) (by decide +kernel), gx_mem 1307 (by decide +kernel) (by decide +kernel), gx_mem 67 (by decide +kernel) (by decide +kernel)⟩
theorem kt_X11_leads : gx_Mt yX11_leads cX11_leads 5 (some .int) 4 := ⟨gx_mem 1328 (by decide +kernel) (by decide +kernel), gx_mem 88 (by decide +kernel) (by decide +kernel), by decide +kernel, by decide⟩
theorem kc_RX11_226 : gx_MV RX11 226 yX11_leads cX11_leads 5 (some .int) 4 := ⟨kt_X11_leads, gx_mem 1325 (by decide +kernel) (by decide +kernel), gx_mem 1327 (by decide +kernel) (by decide +kernel), gx_mem 69 (by decide +kernel) (by decide +kernel)⟩
theorem kt_X11_isOf : gx_Mt yX11_isOf cX11_isOf 6 (some .int) 1 := ⟨gx_mem 1324 (by decide +kernel) (by decide +kernel), gx_mem 88 (by decide +kernel) (by decide +kernel), by decide +kernel, by decide⟩
theorem kc_RX11_229 : gx_MV RX11 229 yX11_isOf cX11_isOf 6 (some .int) 1 := ⟨kt_X11_isOf, gx_mem 1321 (by decide +kernel) (by decide +kernel), gx_mem 1323 (by decide +kernel) (by decide +kernel), gx_mem 68 (by decide +kernel) (by decide +kernel)⟩
theorem kk_RX11_232 : Cond.constant RX11 232 1000000 ∈ gx_tbl := gx_mem 1333 (by decide +kernel) (by decide +kernel)
theorem kt_X11_has : gx_Mt yX11_has cX11_has 2 (some .boolean) 2 := ⟨gx_mem 1336 (by decide +kernel) (by decide +kernel), gx_mem 88 (by decide +kernel) (by decide +kernel), by decide +kernel, by decide⟩
theorem kc_RX11_233 : gx_MS RX11 233 yX11_has cX11_has 2 (some .boolean) 2 := ⟨kt_X11_has, gx_mem 1334 (by decide +kernel) (by decide +kernel), gx_mem 1335 (by decide +kernel) (by decide +kernel)⟩
theorem kt_X11_whatOf : gx_Mt yX11_whatOf cX11_whatOf 6 (some .int) 1 := ⟨gx_mem 1344 (by decide +kernel) (by decide +kernel), gx_mem 88 (by decide +kernel) (by decide +kernel), by decide +kernel, by decide⟩
theorem kc_RX11_236 : gx_MV RX11 236 yX11_whatOf cX11_whatOf 6 (some .int) 1 := ⟨kt_X11_whatOf, gx_mem 1341 (by decide +kernel) (by decide +kernel), gx_mem 1343 (by decide +kernel) (by decide +kernel), gx_mem 70 (by decide +kernel) (by decide +kernel)⟩
theorem kf_RX11_33 : gx_Fld RX11 33 9 11 := ⟨RX11, TX11, 14, rfl, inX11, by decide, gx_mem 1015 (by decide +kernel) (by decide +kernel)⟩
theorem kf_RX11_36 : gx_Fld RX11 36 9 12 := ⟨RX11, TX11, 14, rfl, inX11, by decide, gx_mem 1016 (by decide +kernel) (by decide +kernel)⟩
theorem kt_X11_gains : gx_Mt yX11_gains cX11_gains 8 none 2 := ⟨gx_mem 1356 (by decide +kernel) (by decide +kernel), gx_mem 88 (by decide +kernel) (by decide +kernel), by decide +kernel, by decide⟩
theorem kc_RX11_239 : gx_MV RX11 239 yX11_gains cX11_gains 8 none 2 := ⟨kt_X11_gains, gx_mem 1353 (by decide +kernel) (by decide +kernel), gx_mem 1355 (by decide +kernel) (by decide +kernel), gx_mem 71 (by decide +kernel) (by decide +kernel)⟩
theorem kt_X11_rests : gx_Mt yX11_rests cX11_rests 5 (some .boolean) 2 := ⟨gx_mem 1360 (by decide +kernel) (by decide +kernel), gx_mem 88 (by decide +kernel) (by decide +kernel), by decide +kernel, by decide⟩
theorem kc_RX11_242 : gx_MV RX11 242 yX11_rests cX11_rests 5 (some .boolean) 2 := ⟨kt_X11_rests, gx_mem 1357 (by decide +kernel) (by decide +kernel), gx_mem 1359 (by decide +kernel) (by decide +kernel), gx_mem 72 (by decide +kernel) (by decide +kernel)⟩
theorem kk_RX11_245 : Cond.constantLong RX11 245 999999 ∈ gx_tbl := gx_mem 1365 (by decide +kernel) (by decide +kernel)
theorem kk_RX11_247 : Cond.constantLong RX11 247 60 ∈ gx_tbl := gx_mem 1366 (by decide +kernel) (by decide +kernel)
theorem kk_RX11_249 : Cond.constantLong RX11 249 1103515245 ∈ gx_tbl := gx_mem 1367 (by decide +kernel) (by decide +kernel)
theorem kk_RX11_251 : Cond.constantLong RX11 251 12345 ∈ gx_tbl := gx_mem 1368 (by decide +kernel) (by decide +kernel)
theorem kk_RX11_253 : Cond.constantLong RX11 253 2147483648 ∈ gx_tbl := gx_mem 1369 (by decide +kernel) (by decide +kernel)
theorem kk_RX11_255 : Cond.constantLong RX11 255 65536 ∈ gx_tbl := gx_mem 1370 (by decide +kernel) (by decide +kernel)
theorem kk_RX11_257 : Cond.constantLong RX11 257 1048576 ∈ gx_tbl := gx_mem 1371 (by decide +kernel) (by decide +kernel)
theorem kf_RX11_24 : gx_Fld RX11 24 9 5 := ⟨RX11, TX11, 14, rfl, inX11, by decide, gx_mem 1009 (by decide +kernel) (by decide +kernel)⟩
theorem kf_RX11_20 : gx_Fld RX11 20 9 4 := ⟨RX11, TX11, 14, rfl, inX11, by decide, gx_mem 1008 (by decide +kernel) (by decide +kernel)⟩
theorem kf_RX11_13 : gx_Fld RX11 13 9 1 := ⟨RX11, TX11, 14, rfl, inX11, by decide, gx_mem 1005 (by decide +kernel) (by decide +kernel)⟩
theorem kt_X11_sumOf : gx_Mt yX11_sumOf cX11_sumOf 5 (some .int) 2 := ⟨gx_mem 1399 (by decide +kernel) (by decide +kernel), gx_mem 88 (by decide +kernel) (by decide +kernel), by decide +kernel, by decide⟩
theorem kc_RX11_259 : gx_MV RX11 259 yX11_sumOf cX11_sumOf 5 (some .int) 2 := ⟨kt_X11_sumOf, gx_mem 1396 (by decide +kernel) (by decide +kernel), gx_mem 1398 (by decide +kernel) (by decide +kernel), gx_mem 74 (by decide +kernel) (by decide +kernel)⟩
theorem kt_X11_countOf : gx_Mt yX11_countOf cX11_countOf 2 (some .int) 1 := ⟨gx_mem 1395 (by decide +kernel) (by decide +kernel), gx_mem 88 (by decide +kernel) (by decide +kernel), by decide +kernel, by decide⟩
theorem kc_RX11_262 : gx_MV RX11 262 yX11_countOf cX11_countOf 2 (some .int) 1 := ⟨kt_X11_countOf, gx_mem 1392 (by decide +kernel) (by decide +kernel), gx_mem 1394 (by decide +kernel) (by decide +kernel), gx_mem 73 (by decide +kernel) (by decide +kernel)⟩
theorem kk_RX11_265 : Cond.constantLong RX11 265 31 ∈ gx_tbl := gx_mem 1409 (by decide +kernel) (by decide +kernel)
theorem kf_RX11_267 : gx_Fld RX11 267 9 13 := ⟨RX11, TX11, 14, rfl, inX11, by decide, gx_mem 1017 (by decide +kernel) (by decide +kernel)⟩
theorem kp_RX11_267 : gx_FldP RX11 267 9 13 false .long := ⟨RX11, TX11, 14, rfl, inX11, by decide, gx_mem 1017 (by decide +kernel) (by decide +kernel), ⟨tyX11, tyX11_ok⟩, nmX11, rfl, by decide +kernel, fun q => by cases q⟩
theorem kt_X11_mix : gx_Mt yX11_mix cX11_mix 3 none 1 := ⟨gx_mem 1408 (by decide +kernel) (by decide +kernel), gx_mem 88 (by decide +kernel) (by decide +kernel), by decide +kernel, by decide⟩
theorem kc_RX11_270 : gx_MV RX11 270 yX11_mix cX11_mix 3 none 1 := ⟨kt_X11_mix, gx_mem 1405 (by decide +kernel) (by decide +kernel), gx_mem 1407 (by decide +kernel) (by decide +kernel), gx_mem 75 (by decide +kernel) (by decide +kernel)⟩
theorem kk_RX11_274 : Cond.constantLong RX11 274 1831 ∈ gx_tbl := gx_mem 1404 (by decide +kernel) (by decide +kernel)
theorem kt_X11_mixes : gx_Mt yX11_mixes cX11_mixes 4 none 2 := ⟨gx_mem 1413 (by decide +kernel) (by decide +kernel), gx_mem 88 (by decide +kernel) (by decide +kernel), by decide +kernel, by decide⟩
theorem kc_RX11_276 : gx_MV RX11 276 yX11_mixes cX11_mixes 4 none 2 := ⟨kt_X11_mixes, gx_mem 1410 (by decide +kernel) (by decide +kernel), gx_mem 1412 (by decide +kernel) (by decide +kernel), gx_mem 76 (by decide +kernel) (by decide +kernel)⟩
theorem kn_RL_7 : gx_Cls RL 7 8 11 [.null, .null, .null, .null, .null, .null, .long 0, .long 0, .int 0, .int 0, .int 0] := ⟨RX10, TX10, tyX10, rfl, inX10, tyX10_ok, gx_mem 95 (by decide +kernel) (by decide +kernel), gx_mem 96 (by decide +kernel) (by decide +kernel), gx_mem 78 (by decide +kernel) (by decide +kernel), by decide +kernel⟩
theorem kt_X10_init : gx_Mt yX10_init cX10_init 1 none 0 := ⟨gx_mem 99 (by decide +kernel) (by decide +kernel), gx_mem 78 (by decide +kernel) (by decide +kernel), by decide +kernel, by decide⟩
theorem kc_RL_9 : gx_MI RL 9 yX10_init cX10_init 1 0 := ⟨kt_X10_init, gx_mem 97 (by decide +kernel) (by decide +kernel), gx_mem 98 (by decide +kernel) (by decide +kernel), rfl⟩
theorem kn_RL_10 : gx_Cls RL 10 9 14 [.null, .null, .null, .int 0, .long 0, .long 0, .null, .int 0, .int 0, .int 0, .null, .null, .null, .long 0] := ⟨RX11, TX11, tyX11, rfl, inX11, tyX11_ok, gx_mem 998 (by decide +kernel) (by decide +kernel), gx_mem 999 (by decide +kernel) (by decide +kernel), gx_mem 88 (by decide +kernel) (by decide +kernel), by decide +kernel⟩
theorem kt_X11_init : gx_Mt yX11_init cX11_init 1 none 0 := ⟨gx_mem 1002 (by decide +kernel) (by decide +kernel), gx_mem 88 (by decide +kernel) (by decide +kernel), by decide +kernel, by decide⟩
theorem kc_RL_12 : gx_MI RL 12 yX11_init cX11_init 1 0 := ⟨kt_X11_init, gx_mem 1000 (by decide +kernel) (by decide +kernel), gx_mem 1001 (by decide +kernel) (by decide +kernel), rfl⟩
theorem kt_X10_board : gx_Mt yX10_board cX10_board 4 (some .int) 2 := ⟨gx_mem 400 (by decide +kernel) (by decide +kernel), gx_mem 78 (by decide +kernel) (by decide +kernel), by decide +kernel, by decide⟩
theorem kc_RL_13 : gx_MV RL 13 yX10_board cX10_board 4 (some .int) 2 := ⟨kt_X10_board, gx_mem 397 (by decide +kernel) (by decide +kernel), gx_mem 398 (by decide +kernel) (by decide +kernel), gx_mem 399 (by decide +kernel) (by decide +kernel)⟩
theorem kt_X11_board : gx_Mt yX11_board cX11_board 4 (some .int) 2 := ⟨gx_mem 1050 (by decide +kernel) (by decide +kernel), gx_mem 88 (by decide +kernel) (by decide +kernel), by decide +kernel, by decide⟩
theorem kc_RL_17 : gx_MV RL 17 yX11_board cX11_board 4 (some .int) 2 := ⟨kt_X11_board, gx_mem 1047 (by decide +kernel) (by decide +kernel), gx_mem 1048 (by decide +kernel) (by decide +kernel), gx_mem 1049 (by decide +kernel) (by decide +kernel)⟩
theorem kt_X10_die : gx_Mt yX10_die cX10_die 3 (some .int) 1 := ⟨gx_mem 427 (by decide +kernel) (by decide +kernel), gx_mem 78 (by decide +kernel) (by decide +kernel), by decide +kernel, by decide⟩
theorem kc_RL_18 : gx_MV RL 18 yX10_die cX10_die 3 (some .int) 1 := ⟨kt_X10_die, gx_mem 424 (by decide +kernel) (by decide +kernel), gx_mem 425 (by decide +kernel) (by decide +kernel), gx_mem 426 (by decide +kernel) (by decide +kernel)⟩
theorem kt_X11_die : gx_Mt yX11_die cX11_die 3 (some .int) 1 := ⟨gx_mem 1069 (by decide +kernel) (by decide +kernel), gx_mem 88 (by decide +kernel) (by decide +kernel), by decide +kernel, by decide⟩
theorem kc_RL_22 : gx_MV RL 22 yX11_die cX11_die 3 (some .int) 1 := ⟨kt_X11_die, gx_mem 1066 (by decide +kernel) (by decide +kernel), gx_mem 1067 (by decide +kernel) (by decide +kernel), gx_mem 1068 (by decide +kernel) (by decide +kernel)⟩
theorem kt_X10_link : gx_Mt yX10_link cX10_link 6 (some .int) 3 := ⟨gx_mem 432 (by decide +kernel) (by decide +kernel), gx_mem 78 (by decide +kernel) (by decide +kernel), by decide +kernel, by decide⟩
theorem kc_RL_23 : gx_MV RL 23 yX10_link cX10_link 6 (some .int) 3 := ⟨kt_X10_link, gx_mem 429 (by decide +kernel) (by decide +kernel), gx_mem 430 (by decide +kernel) (by decide +kernel), gx_mem 431 (by decide +kernel) (by decide +kernel)⟩
theorem kt_X11_link : gx_Mt yX11_link cX11_link 4 (some .int) 3 := ⟨gx_mem 1073 (by decide +kernel) (by decide +kernel), gx_mem 88 (by decide +kernel) (by decide +kernel), by decide +kernel, by decide⟩
theorem kc_RL_27 : gx_MV RL 27 yX11_link cX11_link 4 (some .int) 3 := ⟨kt_X11_link, gx_mem 1070 (by decide +kernel) (by decide +kernel), gx_mem 1071 (by decide +kernel) (by decide +kernel), gx_mem 1072 (by decide +kernel) (by decide +kernel)⟩
theorem kt_X10_player : gx_Mt yX10_player cX10_player 2 (some .int) 1 := ⟨gx_mem 444 (by decide +kernel) (by decide +kernel), gx_mem 78 (by decide +kernel) (by decide +kernel), by decide +kernel, by decide⟩
theorem kc_RL_28 : gx_MV RL 28 yX10_player cX10_player 2 (some .int) 1 := ⟨kt_X10_player, gx_mem 441 (by decide +kernel) (by decide +kernel), gx_mem 442 (by decide +kernel) (by decide +kernel), gx_mem 443 (by decide +kernel) (by decide +kernel)⟩
theorem kt_X11_player : gx_Mt yX11_player cX11_player 2 (some .int) 1 := ⟨gx_mem 1098 (by decide +kernel) (by decide +kernel), gx_mem 88 (by decide +kernel) (by decide +kernel), by decide +kernel, by decide⟩
theorem kc_RL_31 : gx_MV RL 31 yX11_player cX11_player 2 (some .int) 1 := ⟨kt_X11_player, gx_mem 1095 (by decide +kernel) (by decide +kernel), gx_mem 1096 (by decide +kernel) (by decide +kernel), gx_mem 1097 (by decide +kernel) (by decide +kernel)⟩
theorem kt_X10_type : gx_Mt yX10_type cX10_type 2 (some .int) 1 := ⟨gx_mem 452 (by decide +kernel) (by decide +kernel), gx_mem 78 (by decide +kernel) (by decide +kernel), by decide +kernel, by decide⟩
theorem kc_RL_32 : gx_MV RL 32 yX10_type cX10_type 2 (some .int) 1 := ⟨kt_X10_type, gx_mem 449 (by decide +kernel) (by decide +kernel), gx_mem 450 (by decide +kernel) (by decide +kernel), gx_mem 451 (by decide +kernel) (by decide +kernel)⟩
theorem kt_X11_type : gx_Mt yX11_type cX11_type 2 (some .int) 1 := ⟨gx_mem 1106 (by decide +kernel) (by decide +kernel), gx_mem 88 (by decide +kernel) (by decide +kernel), by decide +kernel, by decide⟩
theorem kc_RL_35 : gx_MV RL 35 yX11_type cX11_type 2 (some .int) 1 := ⟨kt_X11_type, gx_mem 1103 (by decide +kernel) (by decide +kernel), gx_mem 1104 (by decide +kernel) (by decide +kernel), gx_mem 1105 (by decide +kernel) (by decide +kernel)⟩
theorem kt_X10_clear : gx_Mt yX10_clear cX10_clear 1 (some .int) 0 := ⟨gx_mem 460 (by decide +kernel) (by decide +kernel), gx_mem 78 (by decide +kernel) (by decide +kernel), by decide +kernel, by decide⟩
theorem kc_RL_36 : gx_MV RL 36 yX10_clear cX10_clear 1 (some .int) 0 := ⟨kt_X10_clear, gx_mem 457 (by decide +kernel) (by decide +kernel), gx_mem 458 (by decide +kernel) (by decide +kernel), gx_mem 459 (by decide +kernel) (by decide +kernel)⟩
theorem kt_X11_clear : gx_Mt yX11_clear cX11_clear 2 (some .int) 0 := ⟨gx_mem 1111 (by decide +kernel) (by decide +kernel), gx_mem 88 (by decide +kernel) (by decide +kernel), by decide +kernel, by decide⟩
theorem kc_RL_40 : gx_MV RL 40 yX11_clear cX11_clear 2 (some .int) 0 := ⟨kt_X11_clear, gx_mem 1108 (by decide +kernel) (by decide +kernel), gx_mem 1109 (by decide +kernel) (by decide +kernel), gx_mem 1110 (by decide +kernel) (by decide +kernel)⟩
theorem kt_X10_read : gx_Mt yX10_read cX10_read 2 (some .int) 0 := ⟨gx_mem 468 (by decide +kernel) (by decide +kernel), gx_mem 78 (by decide +kernel) (by decide +kernel), by decide +kernel, by decide⟩
theorem kc_RL_41 : gx_MV RL 41 yX10_read cX10_read 2 (some .int) 0 := ⟨kt_X10_read, gx_mem 465 (by decide +kernel) (by decide +kernel), gx_mem 466 (by decide +kernel) (by decide +kernel), gx_mem 467 (by decide +kernel) (by decide +kernel)⟩
theorem kt_X11_read : gx_Mt yX11_read cX11_read 3 (some .int) 0 := ⟨gx_mem 1115 (by decide +kernel) (by decide +kernel), gx_mem 88 (by decide +kernel) (by decide +kernel), by decide +kernel, by decide⟩
theorem kc_RL_44 : gx_MV RL 44 yX11_read cX11_read 3 (some .int) 0 := ⟨kt_X11_read, gx_mem 1112 (by decide +kernel) (by decide +kernel), gx_mem 1113 (by decide +kernel) (by decide +kernel), gx_mem 1114 (by decide +kernel) (by decide +kernel)⟩
theorem kt_X10_rolls : gx_Mt yX10_rolls cX10_rolls 3 (some .int) 2 := ⟨gx_mem 639 (by decide +kernel) (by decide +kernel), gx_mem 78 (by decide +kernel) (by decide +kernel), by decide +kernel, by decide⟩
theorem kc_RL_45 : gx_MV RL 45 yX10_rolls cX10_rolls 3 (some .int) 2 := ⟨kt_X10_rolls, gx_mem 636 (by decide +kernel) (by decide +kernel), gx_mem 637 (by decide +kernel) (by decide +kernel), gx_mem 638 (by decide +kernel) (by decide +kernel)⟩
theorem kt_X11_rolls : gx_Mt yX11_rolls cX11_rolls 3 (some .int) 2 := ⟨gx_mem 1209 (by decide +kernel) (by decide +kernel), gx_mem 88 (by decide +kernel) (by decide +kernel), by decide +kernel, by decide⟩
theorem kc_RL_48 : gx_MV RL 48 yX11_rolls cX11_rolls 3 (some .int) 2 := ⟨kt_X11_rolls, gx_mem 1206 (by decide +kernel) (by decide +kernel), gx_mem 1207 (by decide +kernel) (by decide +kernel), gx_mem 1208 (by decide +kernel) (by decide +kernel)⟩
theorem kt_X10_sets : gx_Mt yX10_sets cX10_sets 4 (some .int) 2 := ⟨gx_mem 657 (by decide +kernel) (by decide +kernel), gx_mem 78 (by decide +kernel) (by decide +kernel), by decide +kernel, by decide⟩
theorem kc_RL_49 : gx_MV RL 49 yX10_sets cX10_sets 4 (some .int) 2 := ⟨kt_X10_sets, gx_mem 654 (by decide +kernel) (by decide +kernel), gx_mem 655 (by decide +kernel) (by decide +kernel), gx_mem 656 (by decide +kernel) (by decide +kernel)⟩
theorem kt_X11_sets : gx_Mt yX11_sets cX11_sets 4 (some .int) 2 := ⟨gx_mem 1225 (by decide +kernel) (by decide +kernel), gx_mem 88 (by decide +kernel) (by decide +kernel), by decide +kernel, by decide⟩
theorem kc_RL_52 : gx_MV RL 52 yX11_sets cX11_sets 4 (some .int) 2 := ⟨kt_X11_sets, gx_mem 1222 (by decide +kernel) (by decide +kernel), gx_mem 1223 (by decide +kernel) (by decide +kernel), gx_mem 1224 (by decide +kernel) (by decide +kernel)⟩
theorem kt_X10_undo : gx_Mt yX10_undo cX10_undo 1 (some .int) 0 := ⟨gx_mem 662 (by decide +kernel) (by decide +kernel), gx_mem 78 (by decide +kernel) (by decide +kernel), by decide +kernel, by decide⟩
theorem kc_RL_53 : gx_MV RL 53 yX10_undo cX10_undo 1 (some .int) 0 := ⟨kt_X10_undo, gx_mem 659 (by decide +kernel) (by decide +kernel), gx_mem 660 (by decide +kernel) (by decide +kernel), gx_mem 661 (by decide +kernel) (by decide +kernel)⟩
theorem kt_X11_undo : gx_Mt yX11_undo cX11_undo 3 (some .int) 0 := ⟨gx_mem 1229 (by decide +kernel) (by decide +kernel), gx_mem 88 (by decide +kernel) (by decide +kernel), by decide +kernel, by decide⟩
theorem kc_RL_56 : gx_MV RL 56 yX11_undo cX11_undo 3 (some .int) 0 := ⟨kt_X11_undo, gx_mem 1226 (by decide +kernel) (by decide +kernel), gx_mem 1227 (by decide +kernel) (by decide +kernel), gx_mem 1228 (by decide +kernel) (by decide +kernel)⟩
theorem kt_X10_of : gx_Mt yX10_of cX10_of 3 (some .int) 2 := ⟨gx_mem 679 (by decide +kernel) (by decide +kernel), gx_mem 78 (by decide +kernel) (by decide +kernel), by decide +kernel, by decide⟩
theorem kc_RL_57 : gx_MV RL 57 yX10_of cX10_of 3 (some .int) 2 := ⟨kt_X10_of, gx_mem 676 (by decide +kernel) (by decide +kernel), gx_mem 677 (by decide +kernel) (by decide +kernel), gx_mem 678 (by decide +kernel) (by decide +kernel)⟩
theorem kt_X11_of : gx_Mt yX11_of cX11_of 3 (some .int) 2 := ⟨gx_mem 1237 (by decide +kernel) (by decide +kernel), gx_mem 88 (by decide +kernel) (by decide +kernel), by decide +kernel, by decide⟩
theorem kc_RL_60 : gx_MV RL 60 yX11_of cX11_of 3 (some .int) 2 := ⟨kt_X11_of, gx_mem 1234 (by decide +kernel) (by decide +kernel), gx_mem 1235 (by decide +kernel) (by decide +kernel), gx_mem 1236 (by decide +kernel) (by decide +kernel)⟩
theorem kt_X10_about : gx_Mt yX10_about cX10_about 3 (some .int) 2 := ⟨gx_mem 683 (by decide +kernel) (by decide +kernel), gx_mem 78 (by decide +kernel) (by decide +kernel), by decide +kernel, by decide⟩
theorem kc_RL_61 : gx_MV RL 61 yX10_about cX10_about 3 (some .int) 2 := ⟨kt_X10_about, gx_mem 680 (by decide +kernel) (by decide +kernel), gx_mem 681 (by decide +kernel) (by decide +kernel), gx_mem 682 (by decide +kernel) (by decide +kernel)⟩
theorem kt_X11_about : gx_Mt yX11_about cX11_about 3 (some .int) 2 := ⟨gx_mem 1241 (by decide +kernel) (by decide +kernel), gx_mem 88 (by decide +kernel) (by decide +kernel), by decide +kernel, by decide⟩
theorem kc_RL_64 : gx_MV RL 64 yX11_about cX11_about 3 (some .int) 2 := ⟨kt_X11_about, gx_mem 1238 (by decide +kernel) (by decide +kernel), gx_mem 1239 (by decide +kernel) (by decide +kernel), gx_mem 1240 (by decide +kernel) (by decide +kernel)⟩
theorem kt_X10_goes : gx_Mt yX10_goes cX10_goes 3 (some .int) 2 := ⟨gx_mem 691 (by decide +kernel) (by decide +kernel), gx_mem 78 (by decide +kernel) (by decide +kernel), by decide +kernel, by decide⟩
theorem kc_RL_65 : gx_MV RL 65 yX10_goes cX10_goes 3 (some .int) 2 := ⟨kt_X10_goes, gx_mem 688 (by decide +kernel) (by decide +kernel), gx_mem 689 (by decide +kernel) (by decide +kernel), gx_mem 690 (by decide +kernel) (by decide +kernel)⟩
theorem kt_X11_goes : gx_Mt yX11_goes cX11_goes 3 (some .int) 2 := ⟨gx_mem 1250 (by decide +kernel) (by decide +kernel), gx_mem 88 (by decide +kernel) (by decide +kernel), by decide +kernel, by decide⟩
theorem kc_RL_68 : gx_MV RL 68 yX11_goes cX11_goes 3 (some .int) 2 := ⟨kt_X11_goes, gx_mem 1247 (by decide +kernel) (by decide +kernel), gx_mem 1248 (by decide +kernel) (by decide +kernel), gx_mem 1249 (by decide +kernel) (by decide +kernel)⟩
theorem kt_X10_few : gx_Mt yX10_few cX10_few 4 (some .int) 2 := ⟨gx_mem 699 (by decide +kernel) (by decide +kernel), gx_mem 78 (by decide +kernel) (by decide +kernel), by decide +kernel, by decide⟩
theorem kc_RL_69 : gx_MV RL 69 yX10_few cX10_few 4 (some .int) 2 := ⟨kt_X10_few, gx_mem 696 (by decide +kernel) (by decide +kernel), gx_mem 697 (by decide +kernel) (by decide +kernel), gx_mem 698 (by decide +kernel) (by decide +kernel)⟩
theorem kt_X11_few : gx_Mt yX11_few cX11_few 6 (some .int) 2 := ⟨gx_mem 1262 (by decide +kernel) (by decide +kernel), gx_mem 88 (by decide +kernel) (by decide +kernel), by decide +kernel, by decide⟩
theorem kc_RL_72 : gx_MV RL 72 yX11_few cX11_few 6 (some .int) 2 := ⟨kt_X11_few, gx_mem 1259 (by decide +kernel) (by decide +kernel), gx_mem 1260 (by decide +kernel) (by decide +kernel), gx_mem 1261 (by decide +kernel) (by decide +kernel)⟩
theorem kt_X10_home : gx_Mt yX10_home cX10_home 3 (some .int) 2 := ⟨gx_mem 723 (by decide +kernel) (by decide +kernel), gx_mem 78 (by decide +kernel) (by decide +kernel), by decide +kernel, by decide⟩
theorem kc_RL_73 : gx_MV RL 73 yX10_home cX10_home 3 (some .int) 2 := ⟨kt_X10_home, gx_mem 720 (by decide +kernel) (by decide +kernel), gx_mem 721 (by decide +kernel) (by decide +kernel), gx_mem 722 (by decide +kernel) (by decide +kernel)⟩
theorem kt_X11_home : gx_Mt yX11_home cX11_home 6 (some .int) 2 := ⟨gx_mem 1274 (by decide +kernel) (by decide +kernel), gx_mem 88 (by decide +kernel) (by decide +kernel), by decide +kernel, by decide⟩
theorem kc_RL_76 : gx_MV RL 76 yX11_home cX11_home 6 (some .int) 2 := ⟨kt_X11_home, gx_mem 1271 (by decide +kernel) (by decide +kernel), gx_mem 1272 (by decide +kernel) (by decide +kernel), gx_mem 1273 (by decide +kernel) (by decide +kernel)⟩
theorem kt_X10_mean : gx_Mt yX10_mean cX10_mean 3 (some .int) 2 := ⟨gx_mem 758 (by decide +kernel) (by decide +kernel), gx_mem 78 (by decide +kernel) (by decide +kernel), by decide +kernel, by decide⟩
theorem kc_RL_77 : gx_MV RL 77 yX10_mean cX10_mean 3 (some .int) 2 := ⟨kt_X10_mean, gx_mem 755 (by decide +kernel) (by decide +kernel), gx_mem 756 (by decide +kernel) (by decide +kernel), gx_mem 757 (by decide +kernel) (by decide +kernel)⟩
theorem kt_X11_mean : gx_Mt yX11_mean cX11_mean 6 (some .int) 2 := ⟨gx_mem 1282 (by decide +kernel) (by decide +kernel), gx_mem 88 (by decide +kernel) (by decide +kernel), by decide +kernel, by decide⟩
theorem kc_RL_80 : gx_MV RL 80 yX11_mean cX11_mean 6 (some .int) 2 := ⟨kt_X11_mean, gx_mem 1279 (by decide +kernel) (by decide +kernel), gx_mem 1280 (by decide +kernel) (by decide +kernel), gx_mem 1281 (by decide +kernel) (by decide +kernel)⟩
theorem kt_X10_ahead : gx_Mt yX10_ahead cX10_ahead 5 (some .int) 3 := ⟨gx_mem 766 (by decide +kernel) (by decide +kernel), gx_mem 78 (by decide +kernel) (by decide +kernel), by decide +kernel, by decide⟩
theorem kc_RL_81 : gx_MV RL 81 yX10_ahead cX10_ahead 5 (some .int) 3 := ⟨kt_X10_ahead, gx_mem 763 (by decide +kernel) (by decide +kernel), gx_mem 764 (by decide +kernel) (by decide +kernel), gx_mem 765 (by decide +kernel) (by decide +kernel)⟩
theorem kt_X11_ahead : gx_Mt yX11_ahead cX11_ahead 9 (some .int) 3 := ⟨gx_mem 1286 (by decide +kernel) (by decide +kernel), gx_mem 88 (by decide +kernel) (by decide +kernel), by decide +kernel, by decide⟩
theorem kc_RL_84 : gx_MV RL 84 yX11_ahead cX11_ahead 9 (some .int) 3 := ⟨kt_X11_ahead, gx_mem 1283 (by decide +kernel) (by decide +kernel), gx_mem 1284 (by decide +kernel) (by decide +kernel), gx_mem 1285 (by decide +kernel) (by decide +kernel)⟩
theorem kt_X10_rather : gx_Mt yX10_rather cX10_rather 4 (some .int) 3 := ⟨gx_mem 781 (by decide +kernel) (by decide +kernel), gx_mem 78 (by decide +kernel) (by decide +kernel), by decide +kernel, by decide⟩
theorem kc_RL_85 : gx_MV RL 85 yX10_rather cX10_rather 4 (some .int) 3 := ⟨kt_X10_rather, gx_mem 778 (by decide +kernel) (by decide +kernel), gx_mem 779 (by decide +kernel) (by decide +kernel), gx_mem 780 (by decide +kernel) (by decide +kernel)⟩
theorem kt_X11_rather : gx_Mt yX11_rather cX11_rather 10 (some .int) 3 := ⟨gx_mem 1290 (by decide +kernel) (by decide +kernel), gx_mem 88 (by decide +kernel) (by decide +kernel), by decide +kernel, by decide⟩
theorem kc_RL_88 : gx_MV RL 88 yX11_rather cX11_rather 10 (some .int) 3 := ⟨kt_X11_rather, gx_mem 1287 (by decide +kernel) (by decide +kernel), gx_mem 1288 (by decide +kernel) (by decide +kernel), gx_mem 1289 (by decide +kernel) (by decide +kernel)⟩
theorem kt_X10_without : gx_Mt yX10_without cX10_without 4 (some .int) 3 := ⟨gx_mem 790 (by decide +kernel) (by decide +kernel), gx_mem 78 (by decide +kernel) (by decide +kernel), by decide +kernel, by decide⟩
theorem kc_RL_89 : gx_MV RL 89 yX10_without cX10_without 4 (some .int) 3 := ⟨kt_X10_without, gx_mem 787 (by decide +kernel) (by decide +kernel), gx_mem 788 (by decide +kernel) (by decide +kernel), gx_mem 789 (by decide +kernel) (by decide +kernel)⟩
theorem kt_X11_without : gx_Mt yX11_without cX11_without 10 (some .int) 3 := ⟨gx_mem 1295 (by decide +kernel) (by decide +kernel), gx_mem 88 (by decide +kernel) (by decide +kernel), by decide +kernel, by decide⟩
theorem kc_RL_92 : gx_MV RL 92 yX11_without cX11_without 10 (some .int) 3 := ⟨kt_X11_without, gx_mem 1292 (by decide +kernel) (by decide +kernel), gx_mem 1293 (by decide +kernel) (by decide +kernel), gx_mem 1294 (by decide +kernel) (by decide +kernel)⟩
theorem kt_X10_span : gx_Mt yX10_span cX10_span 4 (some .int) 3 := ⟨gx_mem 798 (by decide +kernel) (by decide +kernel), gx_mem 78 (by decide +kernel) (by decide +kernel), by decide +kernel, by decide⟩
theorem kc_RL_93 : gx_MV RL 93 yX10_span cX10_span 4 (some .int) 3 := ⟨kt_X10_span, gx_mem 795 (by decide +kernel) (by decide +kernel), gx_mem 796 (by decide +kernel) (by decide +kernel), gx_mem 797 (by decide +kernel) (by decide +kernel)⟩
theorem kt_X11_span : gx_Mt yX11_span cX11_span 9 (some .int) 3 := ⟨gx_mem 1299 (by decide +kernel) (by decide +kernel), gx_mem 88 (by decide +kernel) (by decide +kernel), by decide +kernel, by decide⟩
theorem kc_RL_96 : gx_MV RL 96 yX11_span cX11_span 9 (some .int) 3 := ⟨kt_X11_span, gx_mem 1296 (by decide +kernel) (by decide +kernel), gx_mem 1297 (by decide +kernel) (by decide +kernel), gx_mem 1298 (by decide +kernel) (by decide +kernel)⟩
theorem kt_X10_note : gx_Mt yX10_note cX10_note 5 (some .int) 4 := ⟨gx_mem 814 (by decide +kernel) (by decide +kernel), gx_mem 78 (by decide +kernel) (by decide +kernel), by decide +kernel, by decide⟩
theorem kc_RL_97 : gx_MV RL 97 yX10_note cX10_note 5 (some .int) 4 := ⟨kt_X10_note, gx_mem 811 (by decide +kernel) (by decide +kernel), gx_mem 812 (by decide +kernel) (by decide +kernel), gx_mem 813 (by decide +kernel) (by decide +kernel)⟩
theorem kt_X11_note : gx_Mt yX11_note cX11_note 5 (some .int) 4 := ⟨gx_mem 1303 (by decide +kernel) (by decide +kernel), gx_mem 88 (by decide +kernel) (by decide +kernel), by decide +kernel, by decide⟩
theorem kc_RL_101 : gx_MV RL 101 yX11_note cX11_note 5 (some .int) 4 := ⟨kt_X11_note, gx_mem 1300 (by decide +kernel) (by decide +kernel), gx_mem 1301 (by decide +kernel) (by decide +kernel), gx_mem 1302 (by decide +kernel) (by decide +kernel)⟩
theorem kt_X10_mark : gx_Mt yX10_mark cX10_mark 5 (some .int) 4 := ⟨gx_mem 822 (by decide +kernel) (by decide +kernel), gx_mem 78 (by decide +kernel) (by decide +kernel), by decide +kernel, by decide⟩
theorem kc_RL_102 : gx_MV RL 102 yX10_mark cX10_mark 5 (some .int) 4 := ⟨kt_X10_mark, gx_mem 819 (by decide +kernel) (by decide +kernel), gx_mem 820 (by decide +kernel) (by decide +kernel), gx_mem 821 (by decide +kernel) (by decide +kernel)⟩
theorem kt_X11_mark : gx_Mt yX11_mark cX11_mark 5 (some .int) 4 := ⟨gx_mem 1312 (by decide +kernel) (by decide +kernel), gx_mem 88 (by decide +kernel) (by decide +kernel), by decide +kernel, by decide⟩
theorem kc_RL_105 : gx_MV RL 105 yX11_mark cX11_mark 5 (some .int) 4 := ⟨kt_X11_mark, gx_mem 1309 (by decide +kernel) (by decide +kernel), gx_mem 1310 (by decide +kernel) (by decide +kernel), gx_mem 1311 (by decide +kernel) (by decide +kernel)⟩
theorem kt_X10_forget : gx_Mt yX10_forget cX10_forget 2 (some .int) 1 := ⟨gx_mem 826 (by decide +kernel) (by decide +kernel), gx_mem 78 (by decide +kernel) (by decide +kernel), by decide +kernel, by decide⟩
theorem kc_RL_106 : gx_MV RL 106 yX10_forget cX10_forget 2 (some .int) 1 := ⟨kt_X10_forget, gx_mem 823 (by decide +kernel) (by decide +kernel), gx_mem 824 (by decide +kernel) (by decide +kernel), gx_mem 825 (by decide +kernel) (by decide +kernel)⟩
theorem kt_X11_forget : gx_Mt yX11_forget cX11_forget 4 (some .int) 1 := ⟨gx_mem 1316 (by decide +kernel) (by decide +kernel), gx_mem 88 (by decide +kernel) (by decide +kernel), by decide +kernel, by decide⟩
theorem kc_RL_109 : gx_MV RL 109 yX11_forget cX11_forget 4 (some .int) 1 := ⟨kt_X11_forget, gx_mem 1313 (by decide +kernel) (by decide +kernel), gx_mem 1314 (by decide +kernel) (by decide +kernel), gx_mem 1315 (by decide +kernel) (by decide +kernel)⟩
theorem kt_X10_is : gx_Mt yX10_is cX10_is 2 (some .int) 1 := ⟨gx_mem 831 (by decide +kernel) (by decide +kernel), gx_mem 78 (by decide +kernel) (by decide +kernel), by decide +kernel, by decide⟩
theorem kc_RL_110 : gx_MV RL 110 yX10_is cX10_is 2 (some .int) 1 := ⟨kt_X10_is, gx_mem 828 (by decide +kernel) (by decide +kernel), gx_mem 829 (by decide +kernel) (by decide +kernel), gx_mem 830 (by decide +kernel) (by decide +kernel)⟩
theorem kt_X11_is : gx_Mt yX11_is cX11_is 2 (some .int) 1 := ⟨gx_mem 1320 (by decide +kernel) (by decide +kernel), gx_mem 88 (by decide +kernel) (by decide +kernel), by decide +kernel, by decide⟩
theorem kc_RL_113 : gx_MV RL 113 yX11_is cX11_is 2 (some .int) 1 := ⟨kt_X11_is, gx_mem 1317 (by decide +kernel) (by decide +kernel), gx_mem 1318 (by decide +kernel) (by decide +kernel), gx_mem 1319 (by decide +kernel) (by decide +kernel)⟩
theorem kt_X10_look : gx_Mt yX10_look cX10_look 2 (some .int) 1 := ⟨gx_mem 847 (by decide +kernel) (by decide +kernel), gx_mem 78 (by decide +kernel) (by decide +kernel), by decide +kernel, by decide⟩
theorem kc_RL_114 : gx_MV RL 114 yX10_look cX10_look 2 (some .int) 1 := ⟨kt_X10_look, gx_mem 844 (by decide +kernel) (by decide +kernel), gx_mem 845 (by decide +kernel) (by decide +kernel), gx_mem 846 (by decide +kernel) (by decide +kernel)⟩
theorem kt_X11_look : gx_Mt yX11_look cX11_look 11 (some .int) 1 := ⟨gx_mem 1332 (by decide +kernel) (by decide +kernel), gx_mem 88 (by decide +kernel) (by decide +kernel), by decide +kernel, by decide⟩
theorem kc_RL_117 : gx_MV RL 117 yX11_look cX11_look 11 (some .int) 1 := ⟨kt_X11_look, gx_mem 1329 (by decide +kernel) (by decide +kernel), gx_mem 1330 (by decide +kernel) (by decide +kernel), gx_mem 1331 (by decide +kernel) (by decide +kernel)⟩
theorem kt_X10_kinds : gx_Mt yX10_kinds cX10_kinds 2 (some .int) 1 := ⟨gx_mem 865 (by decide +kernel) (by decide +kernel), gx_mem 78 (by decide +kernel) (by decide +kernel), by decide +kernel, by decide⟩
theorem kc_RL_118 : gx_MV RL 118 yX10_kinds cX10_kinds 2 (some .int) 1 := ⟨kt_X10_kinds, gx_mem 862 (by decide +kernel) (by decide +kernel), gx_mem 863 (by decide +kernel) (by decide +kernel), gx_mem 864 (by decide +kernel) (by decide +kernel)⟩
theorem kt_X11_kinds : gx_Mt yX11_kinds cX11_kinds 2 (some .int) 1 := ⟨gx_mem 1340 (by decide +kernel) (by decide +kernel), gx_mem 88 (by decide +kernel) (by decide +kernel), by decide +kernel, by decide⟩
theorem kc_RL_121 : gx_MV RL 121 yX11_kinds cX11_kinds 2 (some .int) 1 := ⟨kt_X11_kinds, gx_mem 1337 (by decide +kernel) (by decide +kernel), gx_mem 1338 (by decide +kernel) (by decide +kernel), gx_mem 1339 (by decide +kernel) (by decide +kernel)⟩
theorem kt_X10_ask : gx_Mt yX10_ask cX10_ask 2 (some .int) 1 := ⟨gx_mem 877 (by decide +kernel) (by decide +kernel), gx_mem 78 (by decide +kernel) (by decide +kernel), by decide +kernel, by decide⟩
theorem kc_RL_122 : gx_MV RL 122 yX10_ask cX10_ask 2 (some .int) 1 := ⟨kt_X10_ask, gx_mem 874 (by decide +kernel) (by decide +kernel), gx_mem 875 (by decide +kernel) (by decide +kernel), gx_mem 876 (by decide +kernel) (by decide +kernel)⟩
theorem kt_X11_ask : gx_Mt yX11_ask cX11_ask 11 (some .int) 1 := ⟨gx_mem 1348 (by decide +kernel) (by decide +kernel), gx_mem 88 (by decide +kernel) (by decide +kernel), by decide +kernel, by decide⟩
theorem kc_RL_125 : gx_MV RL 125 yX11_ask cX11_ask 11 (some .int) 1 := ⟨kt_X11_ask, gx_mem 1345 (by decide +kernel) (by decide +kernel), gx_mem 1346 (by decide +kernel) (by decide +kernel), gx_mem 1347 (by decide +kernel) (by decide +kernel)⟩
theorem kt_X10_choice : gx_Mt yX10_choice cX10_choice 5 (some .int) 3 := ⟨gx_mem 886 (by decide +kernel) (by decide +kernel), gx_mem 78 (by decide +kernel) (by decide +kernel), by decide +kernel, by decide⟩
theorem kc_RL_126 : gx_MV RL 126 yX10_choice cX10_choice 5 (some .int) 3 := ⟨kt_X10_choice, gx_mem 883 (by decide +kernel) (by decide +kernel), gx_mem 884 (by decide +kernel) (by decide +kernel), gx_mem 885 (by decide +kernel) (by decide +kernel)⟩
theorem kt_X11_choice : gx_Mt yX11_choice cX11_choice 7 (some .int) 3 := ⟨gx_mem 1352 (by decide +kernel) (by decide +kernel), gx_mem 88 (by decide +kernel) (by decide +kernel), by decide +kernel, by decide⟩
theorem kc_RL_129 : gx_MV RL 129 yX11_choice cX11_choice 7 (some .int) 3 := ⟨kt_X11_choice, gx_mem 1349 (by decide +kernel) (by decide +kernel), gx_mem 1350 (by decide +kernel) (by decide +kernel), gx_mem 1351 (by decide +kernel) (by decide +kernel)⟩
theorem kt_X10_evenings : gx_Mt yX10_evenings cX10_evenings 3 (some .int) 2 := ⟨gx_mem 918 (by decide +kernel) (by decide +kernel), gx_mem 78 (by decide +kernel) (by decide +kernel), by decide +kernel, by decide⟩
theorem kc_RL_130 : gx_MV RL 130 yX10_evenings cX10_evenings 3 (some .int) 2 := ⟨kt_X10_evenings, gx_mem 915 (by decide +kernel) (by decide +kernel), gx_mem 916 (by decide +kernel) (by decide +kernel), gx_mem 917 (by decide +kernel) (by decide +kernel)⟩
theorem kt_X11_evenings : gx_Mt yX11_evenings cX11_evenings 7 (some .int) 2 := ⟨gx_mem 1364 (by decide +kernel) (by decide +kernel), gx_mem 88 (by decide +kernel) (by decide +kernel), by decide +kernel, by decide⟩
theorem kc_RL_133 : gx_MV RL 133 yX11_evenings cX11_evenings 7 (some .int) 2 := ⟨kt_X11_evenings, gx_mem 1361 (by decide +kernel) (by decide +kernel), gx_mem 1362 (by decide +kernel) (by decide +kernel), gx_mem 1363 (by decide +kernel) (by decide +kernel)⟩
theorem kt_X10_part : gx_Mt yX10_part cX10_part 2 (some .long) 1 := ⟨gx_mem 936 (by decide +kernel) (by decide +kernel), gx_mem 78 (by decide +kernel) (by decide +kernel), by decide +kernel, by decide⟩
theorem kc_RL_134 : gx_MV RL 134 yX10_part cX10_part 2 (some .long) 1 := ⟨kt_X10_part, gx_mem 933 (by decide +kernel) (by decide +kernel), gx_mem 934 (by decide +kernel) (by decide +kernel), gx_mem 935 (by decide +kernel) (by decide +kernel)⟩
theorem kt_X11_part : gx_Mt yX11_part cX11_part 2 (some .long) 1 := ⟨gx_mem 1375 (by decide +kernel) (by decide +kernel), gx_mem 88 (by decide +kernel) (by decide +kernel), by decide +kernel, by decide⟩
theorem kc_RL_138 : gx_MV RL 138 yX11_part cX11_part 2 (some .long) 1 := ⟨kt_X11_part, gx_mem 1372 (by decide +kernel) (by decide +kernel), gx_mem 1373 (by decide +kernel) (by decide +kernel), gx_mem 1374 (by decide +kernel) (by decide +kernel)⟩
theorem kt_X10_image : gx_Mt yX10_image cX10_image 2 (some .int) 1 := ⟨gx_mem 940 (by decide +kernel) (by decide +kernel), gx_mem 78 (by decide +kernel) (by decide +kernel), by decide +kernel, by decide⟩
theorem kc_RL_139 : gx_MV RL 139 yX10_image cX10_image 2 (some .int) 1 := ⟨kt_X10_image, gx_mem 937 (by decide +kernel) (by decide +kernel), gx_mem 938 (by decide +kernel) (by decide +kernel), gx_mem 939 (by decide +kernel) (by decide +kernel)⟩
theorem kt_X11_image : gx_Mt yX11_image cX11_image 2 (some .int) 1 := ⟨gx_mem 1379 (by decide +kernel) (by decide +kernel), gx_mem 88 (by decide +kernel) (by decide +kernel), by decide +kernel, by decide⟩
theorem kc_RL_142 : gx_MV RL 142 yX11_image cX11_image 2 (some .int) 1 := ⟨kt_X11_image, gx_mem 1376 (by decide +kernel) (by decide +kernel), gx_mem 1377 (by decide +kernel) (by decide +kernel), gx_mem 1378 (by decide +kernel) (by decide +kernel)⟩
theorem kt_X10_from : gx_Mt yX10_from cX10_from 2 (some .int) 1 := ⟨gx_mem 961 (by decide +kernel) (by decide +kernel), gx_mem 78 (by decide +kernel) (by decide +kernel), by decide +kernel, by decide⟩
theorem kc_RL_143 : gx_MV RL 143 yX10_from cX10_from 2 (some .int) 1 := ⟨kt_X10_from, gx_mem 958 (by decide +kernel) (by decide +kernel), gx_mem 959 (by decide +kernel) (by decide +kernel), gx_mem 960 (by decide +kernel) (by decide +kernel)⟩
theorem kt_X11_from : gx_Mt yX11_from cX11_from 2 (some .int) 1 := ⟨gx_mem 1383 (by decide +kernel) (by decide +kernel), gx_mem 88 (by decide +kernel) (by decide +kernel), by decide +kernel, by decide⟩
theorem kc_RL_146 : gx_MV RL 146 yX11_from cX11_from 2 (some .int) 1 := ⟨kt_X11_from, gx_mem 1380 (by decide +kernel) (by decide +kernel), gx_mem 1381 (by decide +kernel) (by decide +kernel), gx_mem 1382 (by decide +kernel) (by decide +kernel)⟩
theorem kt_X10_status : gx_Mt yX10_status cX10_status 2 (some .int) 1 := ⟨gx_mem 965 (by decide +kernel) (by decide +kernel), gx_mem 78 (by decide +kernel) (by decide +kernel), by decide +kernel, by decide⟩
theorem kc_RL_147 : gx_MV RL 147 yX10_status cX10_status 2 (some .int) 1 := ⟨kt_X10_status, gx_mem 962 (by decide +kernel) (by decide +kernel), gx_mem 963 (by decide +kernel) (by decide +kernel), gx_mem 964 (by decide +kernel) (by decide +kernel)⟩
theorem kt_X11_status : gx_Mt yX11_status cX11_status 2 (some .int) 1 := ⟨gx_mem 1387 (by decide +kernel) (by decide +kernel), gx_mem 88 (by decide +kernel) (by decide +kernel), by decide +kernel, by decide⟩
theorem kc_RL_150 : gx_MV RL 150 yX11_status cX11_status 2 (some .int) 1 := ⟨kt_X11_status, gx_mem 1384 (by decide +kernel) (by decide +kernel), gx_mem 1385 (by decide +kernel) (by decide +kernel), gx_mem 1386 (by decide +kernel) (by decide +kernel)⟩
theorem kt_X10_count : gx_Mt yX10_count cX10_count 2 (some .int) 1 := ⟨gx_mem 969 (by decide +kernel) (by decide +kernel), gx_mem 78 (by decide +kernel) (by decide +kernel), by decide +kernel, by decide⟩
theorem kc_RL_151 : gx_MV RL 151 yX10_count cX10_count 2 (some .int) 1 := ⟨kt_X10_count, gx_mem 966 (by decide +kernel) (by decide +kernel), gx_mem 967 (by decide +kernel) (by decide +kernel), gx_mem 968 (by decide +kernel) (by decide +kernel)⟩
theorem kt_X11_count : gx_Mt yX11_count cX11_count 2 (some .int) 1 := ⟨gx_mem 1391 (by decide +kernel) (by decide +kernel), gx_mem 88 (by decide +kernel) (by decide +kernel), by decide +kernel, by decide⟩
theorem kc_RL_154 : gx_MV RL 154 yX11_count cX11_count 2 (some .int) 1 := ⟨kt_X11_count, gx_mem 1388 (by decide +kernel) (by decide +kernel), gx_mem 1389 (by decide +kernel) (by decide +kernel), gx_mem 1390 (by decide +kernel) (by decide +kernel)⟩
theorem kt_X10_digest : gx_Mt yX10_digest cX10_digest 4 (some .long) 0 := ⟨gx_mem 985 (by decide +kernel) (by decide +kernel), gx_mem 78 (by decide +kernel) (by decide +kernel), by decide +kernel, by decide⟩
theorem kc_RL_155 : gx_MV RL 155 yX10_digest cX10_digest 4 (some .long) 0 := ⟨kt_X10_digest, gx_mem 982 (by decide +kernel) (by decide +kernel), gx_mem 983 (by decide +kernel) (by decide +kernel), gx_mem 984 (by decide +kernel) (by decide +kernel)⟩
theorem kt_X11_digest : gx_Mt yX11_digest cX11_digest 2 (some .long) 0 := ⟨gx_mem 1403 (by decide +kernel) (by decide +kernel), gx_mem 88 (by decide +kernel) (by decide +kernel), by decide +kernel, by decide⟩
theorem kc_RL_159 : gx_MV RL 159 yX11_digest cX11_digest 2 (some .long) 0 := ⟨kt_X11_digest, gx_mem 1400 (by decide +kernel) (by decide +kernel), gx_mem 1401 (by decide +kernel) (by decide +kernel), gx_mem 1402 (by decide +kernel) (by decide +kernel)⟩
end
