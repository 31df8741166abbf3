section
-- ===== PART A: goes FIRST, ahead of the names: the tables' words, and 'selects' of the private methods out of them =====
/-- a private method of a class that the tables say can be made, by its rows of tables_1 -/
def lw_okq (q : MethodName × Nat) : Prop := (q.1.cls ≠ "java/lang/invoke/MethodHandle" ∧ q.1.cls ≠ "java/lang/invoke/VarHandle") ∧ Cond.instantiable q.1.cls q.2 ∈ tables_1 ∧ Cond.privateMethod q.1 ∈ tables_1 ∧ Cond.instanceMethod q.1 ∈ tables_1
theorem lw_p0 : lw_okq (⟨"TwoLevels", "begin", "(I)V"⟩, 5) := ⟨⟨by decide +kernel, by decide +kernel⟩, List.mem_of_getElem? (i := 11) (by decide +kernel), List.mem_of_getElem? (i := 73) (by decide +kernel), List.mem_of_getElem? (i := 74) (by decide +kernel)⟩
theorem lw_p1 : lw_okq (⟨"TwoLevels", "makeFree", "(II)V"⟩, 5) := ⟨⟨by decide +kernel, by decide +kernel⟩, List.mem_of_getElem? (i := 11) (by decide +kernel), List.mem_of_getElem? (i := 91) (by decide +kernel), List.mem_of_getElem? (i := 92) (by decide +kernel)⟩
theorem lw_p2 : lw_okq (⟨"TwoLevels$Lists", "layFirst", "(II)V"⟩, 3) := ⟨⟨by decide +kernel, by decide +kernel⟩, List.mem_of_getElem? (i := 35) (by decide +kernel), List.mem_of_getElem? (i := 132) (by decide +kernel), List.mem_of_getElem? (i := 133) (by decide +kernel)⟩
theorem lw_p3 : lw_okq (⟨"TwoLevels", "refuse", "()I"⟩, 5) := ⟨⟨by decide +kernel, by decide +kernel⟩, List.mem_of_getElem? (i := 11) (by decide +kernel), List.mem_of_getElem? (i := 196) (by decide +kernel), List.mem_of_getElem? (i := 197) (by decide +kernel)⟩
theorem lw_p4 : lw_okq (⟨"TwoLevels", "take", "(I)V"⟩, 5) := ⟨⟨by decide +kernel, by decide +kernel⟩, List.mem_of_getElem? (i := 11) (by decide +kernel), List.mem_of_getElem? (i := 200) (by decide +kernel), List.mem_of_getElem? (i := 201) (by decide +kernel)⟩
theorem lw_p5 : lw_okq (⟨"TwoLevels", "cutTo", "(II)V"⟩, 5) := ⟨⟨by decide +kernel, by decide +kernel⟩, List.mem_of_getElem? (i := 11) (by decide +kernel), List.mem_of_getElem? (i := 210) (by decide +kernel), List.mem_of_getElem? (i := 211) (by decide +kernel)⟩
theorem lw_p6 : lw_okq (⟨"TwoLevels", "release", "(I)I"⟩, 5) := ⟨⟨by decide +kernel, by decide +kernel⟩, List.mem_of_getElem? (i := 11) (by decide +kernel), List.mem_of_getElem? (i := 221) (by decide +kernel), List.mem_of_getElem? (i := 222) (by decide +kernel)⟩
theorem lw_p7 : lw_okq (⟨"TwoLevels", "splitBefore", "(II)V"⟩, 5) := ⟨⟨by decide +kernel, by decide +kernel⟩, List.mem_of_getElem? (i := 11) (by decide +kernel), List.mem_of_getElem? (i := 247) (by decide +kernel), List.mem_of_getElem? (i := 248) (by decide +kernel)⟩
theorem lw_p8 : lw_okq (⟨"TwoLevels", "refusalOf", "(I)I"⟩, 5) := ⟨⟨by decide +kernel, by decide +kernel⟩, List.mem_of_getElem? (i := 11) (by decide +kernel), List.mem_of_getElem? (i := 255) (by decide +kernel), List.mem_of_getElem? (i := 256) (by decide +kernel)⟩
theorem lw_p9 : lw_okq (⟨"TwoLevels", "isUsedPlace", "(I)Z"⟩, 5) := ⟨⟨by decide +kernel, by decide +kernel⟩, List.mem_of_getElem? (i := 11) (by decide +kernel), List.mem_of_getElem? (i := 259) (by decide +kernel), List.mem_of_getElem? (i := 260) (by decide +kernel)⟩
theorem lw_p10 : lw_okq (⟨"TwoLevels", "bodyWithBehind", "(I)I"⟩, 5) := ⟨⟨by decide +kernel, by decide +kernel⟩, List.mem_of_getElem? (i := 11) (by decide +kernel), List.mem_of_getElem? (i := 271) (by decide +kernel), List.mem_of_getElem? (i := 272) (by decide +kernel)⟩
theorem lw_p11 : lw_okq (⟨"TwoLevels", "joinBehind", "(I)V"⟩, 5) := ⟨⟨by decide +kernel, by decide +kernel⟩, List.mem_of_getElem? (i := 11) (by decide +kernel), List.mem_of_getElem? (i := 275) (by decide +kernel), List.mem_of_getElem? (i := 276) (by decide +kernel)⟩
theorem lw_p12 : lw_okq (⟨"TwoLevels", "copyBody", "(II)V"⟩, 5) := ⟨⟨by decide +kernel, by decide +kernel⟩, List.mem_of_getElem? (i := 11) (by decide +kernel), List.mem_of_getElem? (i := 279) (by decide +kernel), List.mem_of_getElem? (i := 280) (by decide +kernel)⟩
theorem lw_p13 : lw_okq (⟨"TwoLevels", "lastHeader", "()I"⟩, 5) := ⟨⟨by decide +kernel, by decide +kernel⟩, List.mem_of_getElem? (i := 11) (by decide +kernel), List.mem_of_getElem? (i := 291) (by decide +kernel), List.mem_of_getElem? (i := 292) (by decide +kernel)⟩
theorem lw_p14 : lw_okq (⟨"TwoLevels$Checker", "readBlocks", "()I"⟩, 4) := ⟨⟨by decide +kernel, by decide +kernel⟩, List.mem_of_getElem? (i := 53) (by decide +kernel), List.mem_of_getElem? (i := 320) (by decide +kernel), List.mem_of_getElem? (i := 321) (by decide +kernel)⟩
theorem lw_p15 : lw_okq (⟨"TwoLevels$Checker", "wrongOfBlock", "(IZ)I"⟩, 4) := ⟨⟨by decide +kernel, by decide +kernel⟩, List.mem_of_getElem? (i := 53) (by decide +kernel), List.mem_of_getElem? (i := 324) (by decide +kernel), List.mem_of_getElem? (i := 325) (by decide +kernel)⟩
def lw_privs_1 : List (MethodName × Nat) := [(⟨"TwoLevels", "begin", "(I)V"⟩, 5), (⟨"TwoLevels", "makeFree", "(II)V"⟩, 5), (⟨"TwoLevels$Lists", "layFirst", "(II)V"⟩, 3), (⟨"TwoLevels", "refuse", "()I"⟩, 5), (⟨"TwoLevels", "take", "(I)V"⟩, 5), (⟨"TwoLevels", "cutTo", "(II)V"⟩, 5), (⟨"TwoLevels", "release", "(I)I"⟩, 5), (⟨"TwoLevels", "splitBefore", "(II)V"⟩, 5), (⟨"TwoLevels", "refusalOf", "(I)I"⟩, 5), (⟨"TwoLevels", "isUsedPlace", "(I)Z"⟩, 5), (⟨"TwoLevels", "bodyWithBehind", "(I)I"⟩, 5), (⟨"TwoLevels", "joinBehind", "(I)V"⟩, 5), (⟨"TwoLevels", "copyBody", "(II)V"⟩, 5), (⟨"TwoLevels", "lastHeader", "()I"⟩, 5), (⟨"TwoLevels$Checker", "readBlocks", "()I"⟩, 4), (⟨"TwoLevels$Checker", "wrongOfBlock", "(IZ)I"⟩, 4)]
theorem lw_r1 : ∀ q ∈ lw_privs_1, lw_okq q := List.forall_mem_cons.mpr ⟨lw_p0, List.forall_mem_cons.mpr ⟨lw_p1, List.forall_mem_cons.mpr ⟨lw_p2, List.forall_mem_cons.mpr ⟨lw_p3, List.forall_mem_cons.mpr ⟨lw_p4, List.forall_mem_cons.mpr ⟨lw_p5, List.forall_mem_cons.mpr ⟨lw_p6, List.forall_mem_cons.mpr ⟨lw_p7, List.forall_mem_cons.mpr ⟨lw_p8, List.forall_mem_cons.mpr ⟨lw_p9, List.forall_mem_cons.mpr ⟨lw_p10, List.forall_mem_cons.mpr ⟨lw_p11, List.forall_mem_cons.mpr ⟨lw_p12, List.forall_mem_cons.mpr ⟨lw_p13, List.forall_mem_cons.mpr ⟨lw_p14, List.forall_mem_cons.mpr ⟨lw_p15, fun _ h => absurd h List.not_mem_nil⟩⟩⟩⟩⟩⟩⟩⟩⟩⟩⟩⟩⟩⟩⟩⟩
theorem lw_p16 : lw_okq (⟨"TwoLevels$Checker", "tell", "(II)I"⟩, 4) := ⟨⟨by decide +kernel, by decide +kernel⟩, List.mem_of_getElem? (i := 53) (by decide +kernel), List.mem_of_getElem? (i := 333) (by decide +kernel), List.mem_of_getElem? (i := 334) (by decide +kernel)⟩
theorem lw_p17 : lw_okq (⟨"TwoLevels$Checker", "mark", "(II)V"⟩, 4) := ⟨⟨by decide +kernel, by decide +kernel⟩, List.mem_of_getElem? (i := 53) (by decide +kernel), List.mem_of_getElem? (i := 337) (by decide +kernel), List.mem_of_getElem? (i := 338) (by decide +kernel)⟩
theorem lw_p18 : lw_okq (⟨"TwoLevels$Checker", "readList", "(I)I"⟩, 4) := ⟨⟨by decide +kernel, by decide +kernel⟩, List.mem_of_getElem? (i := 53) (by decide +kernel), List.mem_of_getElem? (i := 342) (by decide +kernel), List.mem_of_getElem? (i := 343) (by decide +kernel)⟩
theorem lw_p19 : lw_okq (⟨"TwoLevels$Checker", "isLinked", "(JII)Z"⟩, 4) := ⟨⟨by decide +kernel, by decide +kernel⟩, List.mem_of_getElem? (i := 53) (by decide +kernel), List.mem_of_getElem? (i := 347) (by decide +kernel), List.mem_of_getElem? (i := 348) (by decide +kernel)⟩
theorem lw_p20 : lw_okq (⟨"TwoLevels$Checker", "markOf", "(I)I"⟩, 4) := ⟨⟨by decide +kernel, by decide +kernel⟩, List.mem_of_getElem? (i := 53) (by decide +kernel), List.mem_of_getElem? (i := 351) (by decide +kernel), List.mem_of_getElem? (i := 352) (by decide +kernel)⟩
theorem lw_p21 : lw_okq (⟨"TwoLevels$Checker", "seekLost", "()I"⟩, 4) := ⟨⟨by decide +kernel, by decide +kernel⟩, List.mem_of_getElem? (i := 53) (by decide +kernel), List.mem_of_getElem? (i := 357) (by decide +kernel), List.mem_of_getElem? (i := 358) (by decide +kernel)⟩
theorem lw_p22 : lw_okq (⟨"TwoLevels", "headerOfBlock", "(I)I"⟩, 5) := ⟨⟨by decide +kernel, by decide +kernel⟩, List.mem_of_getElem? (i := 11) (by decide +kernel), List.mem_of_getElem? (i := 396) (by decide +kernel), List.mem_of_getElem? (i := 397) (by decide +kernel)⟩
theorem lw_p23 : lw_okq (⟨"TwoLevels", "wordsOf", "(Z)I"⟩, 5) := ⟨⟨by decide +kernel, by decide +kernel⟩, List.mem_of_getElem? (i := 11) (by decide +kernel), List.mem_of_getElem? (i := 408) (by decide +kernel), List.mem_of_getElem? (i := 409) (by decide +kernel)⟩
theorem lw_p24 : lw_okq (⟨"TwoLevels", "blocksOf", "(Z)I"⟩, 5) := ⟨⟨by decide +kernel, by decide +kernel⟩, List.mem_of_getElem? (i := 11) (by decide +kernel), List.mem_of_getElem? (i := 412) (by decide +kernel), List.mem_of_getElem? (i := 413) (by decide +kernel)⟩
theorem lw_p25 : lw_okq (⟨"TwoLevels", "mostFree", "()I"⟩, 5) := ⟨⟨by decide +kernel, by decide +kernel⟩, List.mem_of_getElem? (i := 11) (by decide +kernel), List.mem_of_getElem? (i := 416) (by decide +kernel), List.mem_of_getElem? (i := 417) (by decide +kernel)⟩
theorem lw_p26 : lw_okq (⟨"TwoLevelsModel", "lay", "(I)V"⟩, 9) := ⟨⟨by decide +kernel, by decide +kernel⟩, List.mem_of_getElem? (i := 420) (by decide +kernel), List.mem_of_getElem? (i := 426) (by decide +kernel), List.mem_of_getElem? (i := 427) (by decide +kernel)⟩
theorem lw_p27 : lw_okq (⟨"TwoLevelsModel", "lend", "(IIJ)V"⟩, 9) := ⟨⟨by decide +kernel, by decide +kernel⟩, List.mem_of_getElem? (i := 420) (by decide +kernel), List.mem_of_getElem? (i := 430) (by decide +kernel), List.mem_of_getElem? (i := 431) (by decide +kernel)⟩
theorem lw_p28 : lw_okq (⟨"TwoLevelsModel", "behind", "(I)I"⟩, 9) := ⟨⟨by decide +kernel, by decide +kernel⟩, List.mem_of_getElem? (i := 420) (by decide +kernel), List.mem_of_getElem? (i := 438) (by decide +kernel), List.mem_of_getElem? (i := 439) (by decide +kernel)⟩
theorem lw_p29 : lw_okq (⟨"TwoLevelsModel", "words", "(I)I"⟩, 9) := ⟨⟨by decide +kernel, by decide +kernel⟩, List.mem_of_getElem? (i := 420) (by decide +kernel), List.mem_of_getElem? (i := 442) (by decide +kernel), List.mem_of_getElem? (i := 443) (by decide +kernel)⟩
theorem lw_p30 : lw_okq (⟨"TwoLevelsModel", "tell", "(IZ)V"⟩, 9) := ⟨⟨by decide +kernel, by decide +kernel⟩, List.mem_of_getElem? (i := 420) (by decide +kernel), List.mem_of_getElem? (i := 446) (by decide +kernel), List.mem_of_getElem? (i := 447) (by decide +kernel)⟩
theorem lw_p31 : lw_okq (⟨"TwoLevelsModel", "lookFor", "(I)I"⟩, 9) := ⟨⟨by decide +kernel, by decide +kernel⟩, List.mem_of_getElem? (i := 420) (by decide +kernel), List.mem_of_getElem? (i := 502) (by decide +kernel), List.mem_of_getElem? (i := 503) (by decide +kernel)⟩
def lw_privs_2 : List (MethodName × Nat) := [(⟨"TwoLevels$Checker", "tell", "(II)I"⟩, 4), (⟨"TwoLevels$Checker", "mark", "(II)V"⟩, 4), (⟨"TwoLevels$Checker", "readList", "(I)I"⟩, 4), (⟨"TwoLevels$Checker", "isLinked", "(JII)Z"⟩, 4), (⟨"TwoLevels$Checker", "markOf", "(I)I"⟩, 4), (⟨"TwoLevels$Checker", "seekLost", "()I"⟩, 4), (⟨"TwoLevels", "headerOfBlock", "(I)I"⟩, 5), (⟨"TwoLevels", "wordsOf", "(Z)I"⟩, 5), (⟨"TwoLevels", "blocksOf", "(Z)I"⟩, 5), (⟨"TwoLevels", "mostFree", "()I"⟩, 5), (⟨"TwoLevelsModel", "lay", "(I)V"⟩, 9), (⟨"TwoLevelsModel", "lend", "(IIJ)V"⟩, 9), (⟨"TwoLevelsModel", "behind", "(I)I"⟩, 9), (⟨"TwoLevelsModel", "words", "(I)I"⟩, 9), (⟨"TwoLevelsModel", "tell", "(IZ)V"⟩, 9), (⟨"TwoLevelsModel", "lookFor", "(I)I"⟩, 9)]
theorem lw_r2 : ∀ q ∈ lw_privs_2, lw_okq q := List.forall_mem_cons.mpr ⟨lw_p16, List.forall_mem_cons.mpr ⟨lw_p17, List.forall_mem_cons.mpr ⟨lw_p18, List.forall_mem_cons.mpr ⟨lw_p19, List.forall_mem_cons.mpr ⟨lw_p20, List.forall_mem_cons.mpr ⟨lw_p21, List.forall_mem_cons.mpr ⟨lw_p22, List.forall_mem_cons.mpr ⟨lw_p23, List.forall_mem_cons.mpr ⟨lw_p24, List.forall_mem_cons.mpr ⟨lw_p25, List.forall_mem_cons.mpr ⟨lw_p26, List.forall_mem_cons.mpr ⟨lw_p27, List.forall_mem_cons.mpr ⟨lw_p28, List.forall_mem_cons.mpr ⟨lw_p29, List.forall_mem_cons.mpr ⟨lw_p30, List.forall_mem_cons.mpr ⟨lw_p31, fun _ h => absurd h List.not_mem_nil⟩⟩⟩⟩⟩⟩⟩⟩⟩⟩⟩⟩⟩⟩⟩⟩
theorem lw_p32 : lw_okq (⟨"TwoLevelsModel", "leave", "(I)V"⟩, 9) := ⟨⟨by decide +kernel, by decide +kernel⟩, List.mem_of_getElem? (i := 420) (by decide +kernel), List.mem_of_getElem? (i := 506) (by decide +kernel), List.mem_of_getElem? (i := 507) (by decide +kernel)⟩
theorem lw_p33 : lw_okq (⟨"TwoLevelsModel", "take", "(IIIJ)V"⟩, 9) := ⟨⟨by decide +kernel, by decide +kernel⟩, List.mem_of_getElem? (i := 420) (by decide +kernel), List.mem_of_getElem? (i := 513) (by decide +kernel), List.mem_of_getElem? (i := 514) (by decide +kernel)⟩
theorem lw_p34 : lw_okq (⟨"TwoLevelsModel", "isBad", "(I)Z"⟩, 9) := ⟨⟨by decide +kernel, by decide +kernel⟩, List.mem_of_getElem? (i := 420) (by decide +kernel), List.mem_of_getElem? (i := 525) (by decide +kernel), List.mem_of_getElem? (i := 526) (by decide +kernel)⟩
theorem lw_p35 : lw_okq (⟨"TwoLevelsModel", "isFree", "(I)Z"⟩, 9) := ⟨⟨by decide +kernel, by decide +kernel⟩, List.mem_of_getElem? (i := 420) (by decide +kernel), List.mem_of_getElem? (i := 529) (by decide +kernel), List.mem_of_getElem? (i := 530) (by decide +kernel)⟩
theorem lw_p36 : lw_okq (⟨"TwoLevelsModel", "release", "(I)I"⟩, 9) := ⟨⟨by decide +kernel, by decide +kernel⟩, List.mem_of_getElem? (i := 420) (by decide +kernel), List.mem_of_getElem? (i := 533) (by decide +kernel), List.mem_of_getElem? (i := 534) (by decide +kernel)⟩
theorem lw_p37 : lw_okq (⟨"TwoLevelsModel", "moved", "(III)I"⟩, 9) := ⟨⟨by decide +kernel, by decide +kernel⟩, List.mem_of_getElem? (i := 420) (by decide +kernel), List.mem_of_getElem? (i := 541) (by decide +kernel), List.mem_of_getElem? (i := 542) (by decide +kernel)⟩
theorem lw_p38 : lw_okq (⟨"TwoLevelsModel", "checkBlocks", "()I"⟩, 9) := ⟨⟨by decide +kernel, by decide +kernel⟩, List.mem_of_getElem? (i := 420) (by decide +kernel), List.mem_of_getElem? (i := 570) (by decide +kernel), List.mem_of_getElem? (i := 571) (by decide +kernel)⟩
theorem lw_p39 : lw_okq (⟨"TwoLevelsModel", "wrongIn", "(IZ)I"⟩, 9) := ⟨⟨by decide +kernel, by decide +kernel⟩, List.mem_of_getElem? (i := 420) (by decide +kernel), List.mem_of_getElem? (i := 574) (by decide +kernel), List.mem_of_getElem? (i := 575) (by decide +kernel)⟩
theorem lw_p40 : lw_okq (⟨"TwoLevelsModel", "wrong", "(II)I"⟩, 9) := ⟨⟨by decide +kernel, by decide +kernel⟩, List.mem_of_getElem? (i := 420) (by decide +kernel), List.mem_of_getElem? (i := 579) (by decide +kernel), List.mem_of_getElem? (i := 580) (by decide +kernel)⟩
theorem lw_p41 : lw_okq (⟨"TwoLevelsModel", "checkList", "(I)I"⟩, 9) := ⟨⟨by decide +kernel, by decide +kernel⟩, List.mem_of_getElem? (i := 420) (by decide +kernel), List.mem_of_getElem? (i := 583) (by decide +kernel), List.mem_of_getElem? (i := 584) (by decide +kernel)⟩
theorem lw_p42 : lw_okq (⟨"TwoLevelsModel", "bitsIn", "(I)I"⟩, 9) := ⟨⟨by decide +kernel, by decide +kernel⟩, List.mem_of_getElem? (i := 420) (by decide +kernel), List.mem_of_getElem? (i := 601) (by decide +kernel), List.mem_of_getElem? (i := 602) (by decide +kernel)⟩
theorem lw_p43 : lw_okq (⟨"TwoLevelsModel", "counted", "(I)I"⟩, 9) := ⟨⟨by decide +kernel, by decide +kernel⟩, List.mem_of_getElem? (i := 420) (by decide +kernel), List.mem_of_getElem? (i := 618) (by decide +kernel), List.mem_of_getElem? (i := 619) (by decide +kernel)⟩
def lw_privs_3 : List (MethodName × Nat) := [(⟨"TwoLevelsModel", "leave", "(I)V"⟩, 9), (⟨"TwoLevelsModel", "take", "(IIIJ)V"⟩, 9), (⟨"TwoLevelsModel", "isBad", "(I)Z"⟩, 9), (⟨"TwoLevelsModel", "isFree", "(I)Z"⟩, 9), (⟨"TwoLevelsModel", "release", "(I)I"⟩, 9), (⟨"TwoLevelsModel", "moved", "(III)I"⟩, 9), (⟨"TwoLevelsModel", "checkBlocks", "()I"⟩, 9), (⟨"TwoLevelsModel", "wrongIn", "(IZ)I"⟩, 9), (⟨"TwoLevelsModel", "wrong", "(II)I"⟩, 9), (⟨"TwoLevelsModel", "checkList", "(I)I"⟩, 9), (⟨"TwoLevelsModel", "bitsIn", "(I)I"⟩, 9), (⟨"TwoLevelsModel", "counted", "(I)I"⟩, 9)]
theorem lw_r3 : ∀ q ∈ lw_privs_3, lw_okq q := List.forall_mem_cons.mpr ⟨lw_p32, List.forall_mem_cons.mpr ⟨lw_p33, List.forall_mem_cons.mpr ⟨lw_p34, List.forall_mem_cons.mpr ⟨lw_p35, List.forall_mem_cons.mpr ⟨lw_p36, List.forall_mem_cons.mpr ⟨lw_p37, List.forall_mem_cons.mpr ⟨lw_p38, List.forall_mem_cons.mpr ⟨lw_p39, List.forall_mem_cons.mpr ⟨lw_p40, List.forall_mem_cons.mpr ⟨lw_p41, List.forall_mem_cons.mpr ⟨lw_p42, List.forall_mem_cons.mpr ⟨lw_p43, fun _ h => absurd h List.not_mem_nil⟩⟩⟩⟩⟩⟩⟩⟩⟩⟩⟩⟩
def lw_privs : List (MethodName × Nat) := lw_privs_1 ++ (lw_privs_2 ++ (lw_privs_3))
def lw_tbl : List Cond := k2_sels lw_privs ++ tables_1
theorem lw_privs_ok : ∀ q ∈ lw_privs, lw_okq q := by
  show ∀ q ∈ lw_privs_1 ++ (lw_privs_2 ++ (lw_privs_3)), lw_okq q
  exact List.forall_mem_append.mpr ⟨lw_r1, List.forall_mem_append.mpr ⟨lw_r2, lw_r3⟩⟩
end
section
def RX0 : String := "TwoLevels$Checker"
def TX0 : u_T := fun k => match k with
  | 0 => ("TwoLevels$Checker", "pool", "LTwoLevels$Pool;", true)
  | 1 => ("TwoLevels$Checker", "lists", "LTwoLevels$Lists;", true)
  | 2 => ("TwoLevels$Checker", "marks", "[I", true)
  | _ => ("TwoLevels$Checker", "wrongAt", "I", false)
def tyX0 : Nat → FieldType := fun k => match k with
  | 0 => .object "TwoLevels$Pool"
  | 1 => .object "TwoLevels$Lists"
  | 2 => .array .int
  | _ => .int
abbrev wsX00 : List Cond := u_ws RX0 TX0 4
theorem nmX0 : ∀ a, a < 4 → ∀ b, b < 4 → a ≠ b → (TX0 a).2.1 ≠ (TX0 b).2.1 := by decide +kernel
theorem tyX0_ok : ∀ k, k < 4 → parseFieldDescriptor (TX0 k).2.2.1 = some (tyX0 k) := by decide +kernel
abbrev cX0_init : ByteArray := prog_2_method_1_code
def yX0_init : MethodName := ⟨RX0, "<init>", "(LTwoLevels$Pool;LTwoLevels$Lists;)V"⟩
abbrev cX0_run : ByteArray := prog_2_method_2_code
def yX0_run : MethodName := ⟨RX0, "run", "()I"⟩
abbrev cX0_tell : ByteArray := prog_2_method_3_code
def yX0_tell : MethodName := ⟨RX0, "tell", "(II)I"⟩
abbrev cX0_markOf : ByteArray := prog_2_method_4_code
def yX0_markOf : MethodName := ⟨RX0, "markOf", "(I)I"⟩
abbrev cX0_mark : ByteArray := prog_2_method_5_code
def yX0_mark : MethodName := ⟨RX0, "mark", "(II)V"⟩
abbrev cX0_readBlocks : ByteArray := prog_2_method_6_code
def yX0_readBlocks : MethodName := ⟨RX0, "readBlocks", "()I"⟩
abbrev cX0_wrongOfBlock : ByteArray := prog_2_method_7_code
def yX0_wrongOfBlock : MethodName := ⟨RX0, "wrongOfBlock", "(IZ)I"⟩
abbrev cX0_readList : ByteArray := prog_2_method_8_code
def yX0_readList : MethodName := ⟨RX0, "readList", "(I)I"⟩
abbrev cX0_isLinked : ByteArray := prog_2_method_9_code
def yX0_isLinked : MethodName := ⟨RX0, "isLinked", "(JII)Z"⟩
abbrev cX0_seekLost : ByteArray := prog_2_method_10_code
def yX0_seekLost : MethodName := ⟨RX0, "seekLost", "()I"⟩
def RX1 : String := "TwoLevels$Classes"
def TX1 : u_T := fun k => match k with
  | _ => ("", "", "", false)
def tyX1 : Nat → FieldType := fun k => match k with
  | _ => .int
abbrev wsX10 : List Cond := u_ws RX1 TX1 0
theorem nmX1 : ∀ a, a < 0 → ∀ b, b < 0 → a ≠ b → (TX1 a).2.1 ≠ (TX1 b).2.1 := by decide +kernel
theorem tyX1_ok : ∀ k, k < 0 → parseFieldDescriptor (TX1 k).2.2.1 = some (tyX1 k) := by decide +kernel
abbrev cX1_ofBody : ByteArray := prog_3_method_2_code
def yX1_ofBody : MethodName := ⟨RX1, "ofBody", "(I)I"⟩
abbrev cX1_ofWish : ByteArray := prog_3_method_3_code
def yX1_ofWish : MethodName := ⟨RX1, "ofWish", "(I)I"⟩
abbrev cX1_stepShift : ByteArray := prog_3_method_4_code
def yX1_stepShift : MethodName := ⟨RX1, "stepShift", "(I)I"⟩
def RX2 : String := "TwoLevels$Lists"
def TX2 : u_T := fun k => match k with
  | 0 => ("TwoLevels$Lists", "pool", "LTwoLevels$Pool;", true)
  | 1 => ("TwoLevels$Lists", "firsts", "[I", true)
  | _ => ("TwoLevels$Lists", "moves", "I", false)
def tyX2 : Nat → FieldType := fun k => match k with
  | 0 => .object "TwoLevels$Pool"
  | 1 => .array .int
  | _ => .int
abbrev wsX20 : List Cond := u_ws RX2 TX2 3
theorem nmX2 : ∀ a, a < 3 → ∀ b, b < 3 → a ≠ b → (TX2 a).2.1 ≠ (TX2 b).2.1 := by decide +kernel
theorem tyX2_ok : ∀ k, k < 3 → parseFieldDescriptor (TX2 k).2.2.1 = some (tyX2 k) := by decide +kernel
abbrev cX2_init : ByteArray := prog_4_method_1_code
def yX2_init : MethodName := ⟨RX2, "<init>", "(LTwoLevels$Pool;)V"⟩
abbrev cX2_clear : ByteArray := prog_4_method_2_code
def yX2_clear : MethodName := ⟨RX2, "clear", "()V"⟩
abbrev cX2_forgetMoves : ByteArray := prog_4_method_3_code
def yX2_forgetMoves : MethodName := ⟨RX2, "forgetMoves", "()V"⟩
abbrev cX2_firstOf : ByteArray := prog_4_method_4_code
def yX2_firstOf : MethodName := ⟨RX2, "firstOf", "(I)I"⟩
abbrev cX2_layFirst : ByteArray := prog_4_method_5_code
def yX2_layFirst : MethodName := ⟨RX2, "layFirst", "(II)V"⟩
abbrev cX2_come : ByteArray := prog_4_method_6_code
def yX2_come : MethodName := ⟨RX2, "come", "(I)V"⟩
abbrev cX2_leave : ByteArray := prog_4_method_7_code
def yX2_leave : MethodName := ⟨RX2, "leave", "(I)V"⟩
abbrev cX2_headerFor : ByteArray := prog_4_method_8_code
def yX2_headerFor : MethodName := ⟨RX2, "headerFor", "(I)I"⟩
abbrev cX2_placeInList : ByteArray := prog_4_method_9_code
def yX2_placeInList : MethodName := ⟨RX2, "placeInList", "(II)I"⟩
abbrev cX2_stepBits : ByteArray := prog_4_method_10_code
def yX2_stepBits : MethodName := ⟨RX2, "stepBits", "(I)I"⟩
abbrev cX2_levelBits : ByteArray := prog_4_method_11_code
def yX2_levelBits : MethodName := ⟨RX2, "levelBits", "()I"⟩
def RX3 : String := "TwoLevels$Pool"
def TX3 : u_T := fun k => match k with
  | 0 => ("TwoLevels$Pool", "words", "[J", true)
  | _ => ("TwoLevels$Pool", "end", "I", false)
def tyX3 : Nat → FieldType := fun k => match k with
  | 0 => .array .long
  | _ => .int
abbrev wsX30 : List Cond := u_ws RX3 TX3 2
theorem nmX3 : ∀ a, a < 2 → ∀ b, b < 2 → a ≠ b → (TX3 a).2.1 ≠ (TX3 b).2.1 := by decide +kernel
theorem tyX3_ok : ∀ k, k < 2 → parseFieldDescriptor (TX3 k).2.2.1 = some (tyX3 k) := by decide +kernel
abbrev cX3_init : ByteArray := prog_5_method_1_code
def yX3_init : MethodName := ⟨RX3, "<init>", "()V"⟩
abbrev cX3_clear : ByteArray := prog_5_method_2_code
def yX3_clear : MethodName := ⟨RX3, "clear", "(I)V"⟩
abbrev cX3_has : ByteArray := prog_5_method_3_code
def yX3_has : MethodName := ⟨RX3, "has", "(I)Z"⟩
abbrev cX3_at : ByteArray := prog_5_method_4_code
def yX3_at : MethodName := ⟨RX3, "at", "(I)J"⟩
abbrev cX3_lay : ByteArray := prog_5_method_5_code
def yX3_lay : MethodName := ⟨RX3, "lay", "(IJ)V"⟩
abbrev cX3_bodyOf : ByteArray := prog_5_method_6_code
def yX3_bodyOf : MethodName := ⟨RX3, "bodyOf", "(I)I"⟩
abbrev cX3_isFree : ByteArray := prog_5_method_7_code
def yX3_isFree : MethodName := ⟨RX3, "isFree", "(I)Z"⟩
abbrev cX3_isAheadFree : ByteArray := prog_5_method_8_code
def yX3_isAheadFree : MethodName := ⟨RX3, "isAheadFree", "(I)Z"⟩
abbrev cX3_behind : ByteArray := prog_5_method_9_code
def yX3_behind : MethodName := ⟨RX3, "behind", "(I)I"⟩
abbrev cX3_freeAhead : ByteArray := prog_5_method_10_code
def yX3_freeAhead : MethodName := ⟨RX3, "freeAhead", "(I)I"⟩
abbrev cX3_layHeader : ByteArray := prog_5_method_11_code
def yX3_layHeader : MethodName := ⟨RX3, "layHeader", "(III)V"⟩
abbrev cX3_layBody : ByteArray := prog_5_method_12_code
def yX3_layBody : MethodName := ⟨RX3, "layBody", "(II)V"⟩
abbrev cX3_tellBehind : ByteArray := prog_5_method_13_code
def yX3_tellBehind : MethodName := ⟨RX3, "tellBehind", "(I)V"⟩
def RX4 : String := "TwoLevels"
def TX4 : u_T := fun k => match k with
  | 0 => ("TwoLevels", "pool", "LTwoLevels$Pool;", true)
  | 1 => ("TwoLevels", "lists", "LTwoLevels$Lists;", true)
  | 2 => ("TwoLevels", "checker", "LTwoLevels$Checker;", true)
  | 3 => ("TwoLevels", "spoilt", "Z", false)
  | _ => ("TwoLevels", "refusals", "I", false)
def tyX4 : Nat → FieldType := fun k => match k with
  | 0 => .object "TwoLevels$Pool"
  | 1 => .object "TwoLevels$Lists"
  | 2 => .object "TwoLevels$Checker"
  | 3 => .boolean
  | _ => .int
abbrev wsX40 : List Cond := u_ws RX4 TX4 5
theorem nmX4 : ∀ a, a < 5 → ∀ b, b < 5 → a ≠ b → (TX4 a).2.1 ≠ (TX4 b).2.1 := by decide +kernel
theorem tyX4_ok : ∀ k, k < 5 → parseFieldDescriptor (TX4 k).2.2.1 = some (tyX4 k) := by decide +kernel
abbrev cX4_init : ByteArray := prog_1_method_1_code
def yX4_init : MethodName := ⟨RX4, "<init>", "()V"⟩
abbrev cX4_open : ByteArray := prog_1_method_2_code
def yX4_open : MethodName := ⟨RX4, "open", "(I)I"⟩
abbrev cX4_alloc : ByteArray := prog_1_method_3_code
def yX4_alloc : MethodName := ⟨RX4, "alloc", "(I)I"⟩
abbrev cX4_aligned : ByteArray := prog_1_method_4_code
def yX4_aligned : MethodName := ⟨RX4, "aligned", "(II)I"⟩
abbrev cX4_free : ByteArray := prog_1_method_5_code
def yX4_free : MethodName := ⟨RX4, "free", "(I)I"⟩
abbrev cX4_resize : ByteArray := prog_1_method_6_code
def yX4_resize : MethodName := ⟨RX4, "resize", "(II)I"⟩
abbrev cX4_grow : ByteArray := prog_1_method_7_code
def yX4_grow : MethodName := ⟨RX4, "grow", "(I)I"⟩
abbrev cX4_size : ByteArray := prog_1_method_8_code
def yX4_size : MethodName := ⟨RX4, "size", "(I)I"⟩
abbrev cX4_put : ByteArray := prog_1_method_9_code
def yX4_put : MethodName := ⟨RX4, "put", "(IIJ)I"⟩
abbrev cX4_word : ByteArray := prog_1_method_10_code
def yX4_word : MethodName := ⟨RX4, "word", "(I)J"⟩
abbrev cX4_spoil : ByteArray := prog_1_method_11_code
def yX4_spoil : MethodName := ⟨RX4, "spoil", "(IJ)I"⟩
abbrev cX4_check : ByteArray := prog_1_method_12_code
def yX4_check : MethodName := ⟨RX4, "check", "()I"⟩
abbrev cX4_where : ByteArray := prog_1_method_13_code
def yX4_where : MethodName := ⟨RX4, "where", "()I"⟩
abbrev cX4_classOf : ByteArray := prog_1_method_14_code
def yX4_classOf : MethodName := ⟨RX4, "classOf", "(IZ)I"⟩
abbrev cX4_listed : ByteArray := prog_1_method_15_code
def yX4_listed : MethodName := ⟨RX4, "listed", "(II)I"⟩
abbrev cX4_bits : ByteArray := prog_1_method_16_code
def yX4_bits : MethodName := ⟨RX4, "bits", "(I)I"⟩
abbrev cX4_block : ByteArray := prog_1_method_17_code
def yX4_block : MethodName := ⟨RX4, "block", "(II)I"⟩
abbrev cX4_found : ByteArray := prog_1_method_18_code
def yX4_found : MethodName := ⟨RX4, "found", "(I)I"⟩
abbrev cX4_count : ByteArray := prog_1_method_19_code
def yX4_count : MethodName := ⟨RX4, "count", "(I)I"⟩
abbrev cX4_begin : ByteArray := prog_1_method_20_code
def yX4_begin : MethodName := ⟨RX4, "begin", "(I)V"⟩
abbrev cX4_isWish : ByteArray := prog_1_method_21_code
def yX4_isWish : MethodName := ⟨RX4, "isWish", "(I)Z"⟩
abbrev cX4_bodyFor : ByteArray := prog_1_method_22_code
def yX4_bodyFor : MethodName := ⟨RX4, "bodyFor", "(I)I"⟩
abbrev cX4_isAlignment : ByteArray := prog_1_method_23_code
def yX4_isAlignment : MethodName := ⟨RX4, "isAlignment", "(I)Z"⟩
abbrev cX4_alignedPlace : ByteArray := prog_1_method_24_code
def yX4_alignedPlace : MethodName := ⟨RX4, "alignedPlace", "(II)I"⟩
abbrev cX4_mostAhead : ByteArray := prog_1_method_25_code
def yX4_mostAhead : MethodName := ⟨RX4, "mostAhead", "(I)I"⟩
abbrev cX4_refuse : ByteArray := prog_1_method_26_code
def yX4_refuse : MethodName := ⟨RX4, "refuse", "()I"⟩
abbrev cX4_refusalOf : ByteArray := prog_1_method_27_code
def yX4_refusalOf : MethodName := ⟨RX4, "refusalOf", "(I)I"⟩
abbrev cX4_isUsedPlace : ByteArray := prog_1_method_28_code
def yX4_isUsedPlace : MethodName := ⟨RX4, "isUsedPlace", "(I)Z"⟩
abbrev cX4_headerOfBlock : ByteArray := prog_1_method_29_code
def yX4_headerOfBlock : MethodName := ⟨RX4, "headerOfBlock", "(I)I"⟩
abbrev cX4_lastHeader : ByteArray := prog_1_method_30_code
def yX4_lastHeader : MethodName := ⟨RX4, "lastHeader", "()I"⟩
abbrev cX4_wordsOf : ByteArray := prog_1_method_31_code
def yX4_wordsOf : MethodName := ⟨RX4, "wordsOf", "(Z)I"⟩
abbrev cX4_blocksOf : ByteArray := prog_1_method_32_code
def yX4_blocksOf : MethodName := ⟨RX4, "blocksOf", "(Z)I"⟩
abbrev cX4_mostFree : ByteArray := prog_1_method_33_code
def yX4_mostFree : MethodName := ⟨RX4, "mostFree", "()I"⟩
abbrev cX4_take : ByteArray := prog_1_method_34_code
def yX4_take : MethodName := ⟨RX4, "take", "(I)V"⟩
abbrev cX4_cutTo : ByteArray := prog_1_method_35_code
def yX4_cutTo : MethodName := ⟨RX4, "cutTo", "(II)V"⟩
abbrev cX4_splitBefore : ByteArray := prog_1_method_36_code
def yX4_splitBefore : MethodName := ⟨RX4, "splitBefore", "(II)V"⟩
abbrev cX4_release : ByteArray := prog_1_method_37_code
def yX4_release : MethodName := ⟨RX4, "release", "(I)I"⟩
abbrev cX4_makeFree : ByteArray := prog_1_method_38_code
def yX4_makeFree : MethodName := ⟨RX4, "makeFree", "(II)V"⟩
abbrev cX4_bodyWithBehind : ByteArray := prog_1_method_39_code
def yX4_bodyWithBehind : MethodName := ⟨RX4, "bodyWithBehind", "(I)I"⟩
abbrev cX4_joinBehind : ByteArray := prog_1_method_40_code
def yX4_joinBehind : MethodName := ⟨RX4, "joinBehind", "(I)V"⟩
abbrev cX4_copyBody : ByteArray := prog_1_method_41_code
def yX4_copyBody : MethodName := ⟨RX4, "copyBody", "(II)V"⟩
def RX5 : String := "TwoLevelsModel"
def TX5 : u_T := fun k => match k with
  | 0 => ("TwoLevelsModel", "pool", "[J", true)
  | 1 => ("TwoLevelsModel", "size", "I", false)
  | 2 => ("TwoLevelsModel", "first", "[I", true)
  | 3 => ("TwoLevelsModel", "links", "I", false)
  | 4 => ("TwoLevelsModel", "refused", "I", false)
  | 5 => ("TwoLevelsModel", "isSpoilt", "Z", false)
  | 6 => ("TwoLevelsModel", "wrongAt", "I", false)
  | 7 => ("TwoLevelsModel", "met", "[Z", true)
  | _ => ("TwoLevelsModel", "begins", "[Z", true)
def tyX5 : Nat → FieldType := fun k => match k with
  | 0 => .array .long
  | 1 => .int
  | 2 => .array .int
  | 3 => .int
  | 4 => .int
  | 5 => .boolean
  | 6 => .int
  | 7 => .array .boolean
  | _ => .array .boolean
abbrev wsX50 : List Cond := u_ws RX5 TX5 9
theorem nmX5 : ∀ a, a < 9 → ∀ b, b < 9 → a ≠ b → (TX5 a).2.1 ≠ (TX5 b).2.1 := by decide +kernel
theorem tyX5_ok : ∀ k, k < 9 → parseFieldDescriptor (TX5 k).2.2.1 = some (tyX5 k) := by decide +kernel
abbrev cX5_init : ByteArray := prog_7_method_1_code
def yX5_init : MethodName := ⟨RX5, "<init>", "()V"⟩
abbrev cX5_in : ByteArray := prog_7_method_2_code
def yX5_in : MethodName := ⟨RX5, "in", "(JJJ)Z"⟩
abbrev cX5_lay : ByteArray := prog_7_method_3_code
def yX5_lay : MethodName := ⟨RX5, "lay", "(I)V"⟩
abbrev cX5_open : ByteArray := prog_7_method_4_code
def yX5_open : MethodName := ⟨RX5, "open", "(I)I"⟩
abbrev cX5_classIn : ByteArray := prog_7_method_5_code
def yX5_classIn : MethodName := ⟨RX5, "classIn", "(I)I"⟩
abbrev cX5_wishIn : ByteArray := prog_7_method_6_code
def yX5_wishIn : MethodName := ⟨RX5, "wishIn", "(I)I"⟩
abbrev cX5_classOf : ByteArray := prog_7_method_7_code
def yX5_classOf : MethodName := ⟨RX5, "classOf", "(IZ)I"⟩
abbrev cX5_lookFor : ByteArray := prog_7_method_8_code
def yX5_lookFor : MethodName := ⟨RX5, "lookFor", "(I)I"⟩
abbrev cX5_words : ByteArray := prog_7_method_9_code
def yX5_words : MethodName := ⟨RX5, "words", "(I)I"⟩
abbrev cX5_isFree : ByteArray := prog_7_method_10_code
def yX5_isFree : MethodName := ⟨RX5, "isFree", "(I)Z"⟩
abbrev cX5_behind : ByteArray := prog_7_method_11_code
def yX5_behind : MethodName := ⟨RX5, "behind", "(I)I"⟩
abbrev cX5_tell : ByteArray := prog_7_method_12_code
def yX5_tell : MethodName := ⟨RX5, "tell", "(IZ)V"⟩
abbrev cX5_lend : ByteArray := prog_7_method_13_code
def yX5_lend : MethodName := ⟨RX5, "lend", "(IIJ)V"⟩
abbrev cX5_leave : ByteArray := prog_7_method_14_code
def yX5_leave : MethodName := ⟨RX5, "leave", "(I)V"⟩
abbrev cX5_take : ByteArray := prog_7_method_15_code
def yX5_take : MethodName := ⟨RX5, "take", "(IIIJ)V"⟩
abbrev cX5_least : ByteArray := prog_7_method_16_code
def yX5_least : MethodName := ⟨RX5, "least", "(I)I"⟩
abbrev cX5_isBad : ByteArray := prog_7_method_17_code
def yX5_isBad : MethodName := ⟨RX5, "isBad", "(I)Z"⟩
abbrev cX5_alloc : ByteArray := prog_7_method_18_code
def yX5_alloc : MethodName := ⟨RX5, "alloc", "(I)I"⟩
abbrev cX5_aligned : ByteArray := prog_7_method_19_code
def yX5_aligned : MethodName := ⟨RX5, "aligned", "(II)I"⟩
abbrev cX5_release : ByteArray := prog_7_method_20_code
def yX5_release : MethodName := ⟨RX5, "release", "(I)I"⟩
abbrev cX5_free : ByteArray := prog_7_method_21_code
def yX5_free : MethodName := ⟨RX5, "free", "(I)I"⟩
abbrev cX5_moved : ByteArray := prog_7_method_22_code
def yX5_moved : MethodName := ⟨RX5, "moved", "(III)I"⟩
abbrev cX5_resize : ByteArray := prog_7_method_23_code
def yX5_resize : MethodName := ⟨RX5, "resize", "(II)I"⟩
abbrev cX5_grow : ByteArray := prog_7_method_24_code
def yX5_grow : MethodName := ⟨RX5, "grow", "(I)I"⟩
abbrev cX5_size : ByteArray := prog_7_method_25_code
def yX5_size : MethodName := ⟨RX5, "size", "(I)I"⟩
abbrev cX5_put : ByteArray := prog_7_method_26_code
def yX5_put : MethodName := ⟨RX5, "put", "(IIJ)I"⟩
abbrev cX5_word : ByteArray := prog_7_method_27_code
def yX5_word : MethodName := ⟨RX5, "word", "(I)J"⟩
abbrev cX5_spoil : ByteArray := prog_7_method_28_code
def yX5_spoil : MethodName := ⟨RX5, "spoil", "(IJ)I"⟩
abbrev cX5_wrong : ByteArray := prog_7_method_29_code
def yX5_wrong : MethodName := ⟨RX5, "wrong", "(II)I"⟩
abbrev cX5_wrongIn : ByteArray := prog_7_method_30_code
def yX5_wrongIn : MethodName := ⟨RX5, "wrongIn", "(IZ)I"⟩
abbrev cX5_checkBlocks : ByteArray := prog_7_method_31_code
def yX5_checkBlocks : MethodName := ⟨RX5, "checkBlocks", "()I"⟩
abbrev cX5_checkList : ByteArray := prog_7_method_32_code
def yX5_checkList : MethodName := ⟨RX5, "checkList", "(I)I"⟩
abbrev cX5_check : ByteArray := prog_7_method_33_code
def yX5_check : MethodName := ⟨RX5, "check", "()I"⟩
abbrev cX5_where : ByteArray := prog_7_method_34_code
def yX5_where : MethodName := ⟨RX5, "where", "()I"⟩
abbrev cX5_listed : ByteArray := prog_7_method_35_code
def yX5_listed : MethodName := ⟨RX5, "listed", "(II)I"⟩
abbrev cX5_bitsIn : ByteArray := prog_7_method_36_code
def yX5_bitsIn : MethodName := ⟨RX5, "bitsIn", "(I)I"⟩
abbrev cX5_bits : ByteArray := prog_7_method_37_code
def yX5_bits : MethodName := ⟨RX5, "bits", "(I)I"⟩
abbrev cX5_block : ByteArray := prog_7_method_38_code
def yX5_block : MethodName := ⟨RX5, "block", "(II)I"⟩
abbrev cX5_found : ByteArray := prog_7_method_39_code
def yX5_found : MethodName := ⟨RX5, "found", "(I)I"⟩
abbrev cX5_counted : ByteArray := prog_7_method_40_code
def yX5_counted : MethodName := ⟨RX5, "counted", "(I)I"⟩
abbrev cX5_count : ByteArray := prog_7_method_41_code
def yX5_count : MethodName := ⟨RX5, "count", "(I)I"⟩
def RJ6 : String := "java/lang/Integer"
def TJ6 : u_T := fun k => match k with
  | _ => ("", "", "", false)
def tyJ6 : Nat → FieldType := fun k => match k with
  | _ => .int
abbrev wsJ60 : List Cond := u_ws RJ6 TJ6 0
theorem nmJ6 : ∀ a, a < 0 → ∀ b, b < 0 → a ≠ b → (TJ6 a).2.1 ≠ (TJ6 b).2.1 := by decide +kernel
theorem tyJ6_ok : ∀ k, k < 0 → parseFieldDescriptor (TJ6 k).2.2.1 = some (tyJ6 k) := by decide +kernel
abbrev cJ6_numberOfLeadingZeros_0f7a4 : ByteArray := prog_8_method_47_code
def yJ6_numberOfLeadingZeros_0f7a4 : MethodName := ⟨RJ6, "numberOfLeadingZeros", "(I)I"⟩
def RJ9 : String := "java/lang/Math"
def TJ9 : u_T := fun k => match k with
  | _ => ("", "", "", false)
def tyJ9 : Nat → FieldType := fun k => match k with
  | _ => .int
abbrev wsJ90 : List Cond := u_ws RJ9 TJ9 0
theorem nmJ9 : ∀ a, a < 0 → ∀ b, b < 0 → a ≠ b → (TJ9 a).2.1 ≠ (TJ9 b).2.1 := by decide +kernel
theorem tyJ9_ok : ∀ k, k < 0 → parseFieldDescriptor (TJ9 k).2.2.1 = some (tyJ9 k) := by decide +kernel
abbrev cJ9_max_7cf53 : ByteArray := prog_9_method_65_code
def yJ9_max_7cf53 : MethodName := ⟨RJ9, "max", "(II)I"⟩
abbrev cJ9_min_7cf53 : ByteArray := prog_9_method_69_code
def yJ9_min_7cf53 : MethodName := ⟨RJ9, "min", "(II)I"⟩
def RJ7 : String := "java/util/Arrays"
def TJ7 : u_T := fun k => match k with
  | _ => ("", "", "", false)
def tyJ7 : Nat → FieldType := fun k => match k with
  | _ => .int
abbrev wsJ70 : List Cond := u_ws RJ7 TJ7 0
theorem nmJ7 : ∀ a, a < 0 → ∀ b, b < 0 → a ≠ b → (TJ7 a).2.1 ≠ (TJ7 b).2.1 := by decide +kernel
theorem tyJ7_ok : ∀ k, k < 0 → parseFieldDescriptor (TJ7 k).2.2.1 = some (tyJ7 k) := by decide +kernel
abbrev cJ7_fill_d0a16 : ByteArray := prog_10_method_101_code
def yJ7_fill_d0a16 : MethodName := ⟨RJ7, "fill", "([JJ)V"⟩
abbrev cJ7_fill_53178 : ByteArray := prog_10_method_103_code
def yJ7_fill_53178 : MethodName := ⟨RJ7, "fill", "([II)V"⟩
def RL : String := "TwoLevelsLaw"
abbrev cL_law : ByteArray := code
def yL_law : MethodName := ⟨RL, "law", "([I)Z"⟩
abbrev vwCl : List vw_C := [(RX0, TX0, 4), (RX2, TX2, 3), (RX3, TX3, 2), (RX4, TX4, 5), (RX5, TX5, 9)]
def zT : List Cond := lw_tbl.filter goodWord
theorem zt0 {k : Nat} {w : Cond} (h : (k2_sels lw_privs)[k]? = some w) (g : goodWord w = true) : w ∈ zT := List.mem_filter.mpr ⟨List.mem_append_left _ (List.mem_of_getElem? h), g⟩
theorem zt1 {k : Nat} {w : Cond} (h : tables_1_1[k]? = some w) (g : goodWord w = true) : w ∈ zT := List.mem_filter.mpr ⟨List.mem_append_right _ (List.mem_append_left _ (List.mem_of_getElem? h)), g⟩
theorem zt2 {k : Nat} {w : Cond} (h : tables_1_2[k]? = some w) (g : goodWord w = true) : w ∈ zT := List.mem_filter.mpr ⟨List.mem_append_right _ (List.mem_append_right _ (List.mem_append_left _ (List.mem_of_getElem? h))), g⟩
theorem zt3 {k : Nat} {w : Cond} (h : tables_1_3[k]? = some w) (g : goodWord w = true) : w ∈ zT := List.mem_filter.mpr ⟨List.mem_append_right _ (List.mem_append_right _ (List.mem_append_right _ (List.mem_of_getElem? h))), g⟩
theorem zT_good : GoodIn zT zT := fun _ h => ⟨h, good_of_word (List.mem_filter.mp h).2⟩
theorem zT_in : ∀ w ∈ zT, w ∈ lw_tbl := fun _ h => (List.mem_filter.mp h).1
theorem zT_code {w : Cond} (h : w ∈ zT) : GoodIn zT (w :: zT) := fun v hv => (List.mem_cons.mp hv).elim (fun e => e ▸ zT_good w h) (fun q => zT_good v q)
end
section
theorem in_L : Cond.initialized RL ∈ zT := zt1 (k := 0) (by decide +kernel) rfl
theorem in_X4 : Cond.initialized RX4 ∈ zT := zt1 (k := 1) (by decide +kernel) rfl
theorem in_X3 : Cond.initialized RX3 ∈ zT := zt1 (k := 2) (by decide +kernel) rfl
theorem in_X2 : Cond.initialized RX2 ∈ zT := zt1 (k := 3) (by decide +kernel) rfl
theorem in_X0 : Cond.initialized RX0 ∈ zT := zt1 (k := 4) (by decide +kernel) rfl
theorem in_J7 : Cond.initialized RJ7 ∈ zT := zt1 (k := 5) (by decide +kernel) rfl
theorem in_X1 : Cond.initialized RX1 ∈ zT := zt1 (k := 6) (by decide +kernel) rfl
theorem in_J6 : Cond.initialized RJ6 ∈ zT := zt1 (k := 7) (by decide +kernel) rfl
theorem in_X5 : Cond.initialized RX5 ∈ zT := zt1 (k := 8) (by decide +kernel) rfl
theorem in_J9 : Cond.initialized RJ9 ∈ zT := zt1 (k := 9) (by decide +kernel) rfl
theorem cl_L_7 : Cond.classLink RL 7 RX4 ∈ zT := zt1 (k := 10) (by decide +kernel) rfl
theorem it_X4 : Cond.instantiable RX4 5 ∈ zT := zt1 (k := 11) (by decide +kernel) rfl
theorem ml_L_9 : Cond.methodLink RL 9 yX4_init ∈ zT := zt1 (k := 12) (by decide +kernel) rfl
theorem im_X4_init : Cond.instanceMethod yX4_init ∈ zT := zt1 (k := 13) (by decide +kernel) rfl
theorem cd_X4_init : Cond.code yX4_init cX4_init 1 none ∈ zT := zt1 (k := 14) (by decide +kernel) rfl
theorem ml_X4_3 : Cond.methodLink RX4 3 objectInit ∈ zT := zt1 (k := 15) (by decide +kernel) rfl
theorem im_objectInit : Cond.instanceMethod objectInit ∈ zT := zt1 (k := 16) (by decide +kernel) rfl
theorem cd_objectInit : Cond.code objectInit ⟨#[0xb1]⟩ 1 none ∈ zT := zt1 (k := 17) (by decide +kernel) rfl
theorem cl_X4_9 : Cond.classLink RX4 9 RX3 ∈ zT := zt1 (k := 18) (by decide +kernel) rfl
theorem it_X3 : Cond.instantiable RX3 2 ∈ zT := zt1 (k := 19) (by decide +kernel) rfl
theorem im_X3_init : Cond.instanceMethod yX3_init ∈ zT := zt1 (k := 21) (by decide +kernel) rfl
theorem cd_X3_init : Cond.code yX3_init cX3_init 1 none ∈ zT := zt1 (k := 22) (by decide +kernel) rfl
theorem ml_X3_3 : Cond.methodLink RX3 3 objectInit ∈ zT := zt1 (k := 23) (by decide +kernel) rfl
theorem fl_X3_9 : Cond.fieldLink RX3 9 RX3 "words" "[J" ∈ zT := zt1 (k := 24) (by decide +kernel) rfl
theorem fl_X3_21 : Cond.fieldLink RX3 21 RX3 "end" "I" ∈ zT := zt1 (k := 25) (by decide +kernel) rfl
theorem ac_long : Cond.arrayClass .long ∈ zT := zt1 (k := 33) (by decide +kernel) rfl
theorem cl_X4_16 : Cond.classLink RX4 16 RX2 ∈ zT := zt1 (k := 34) (by decide +kernel) rfl
theorem it_X2 : Cond.instantiable RX2 3 ∈ zT := zt1 (k := 35) (by decide +kernel) rfl
theorem ml_X4_18 : Cond.methodLink RX4 18 yX2_init ∈ zT := zt1 (k := 36) (by decide +kernel) rfl
theorem im_X2_init : Cond.instanceMethod yX2_init ∈ zT := zt1 (k := 37) (by decide +kernel) rfl
theorem cd_X2_init : Cond.code yX2_init cX2_init 2 none ∈ zT := zt1 (k := 38) (by decide +kernel) rfl
theorem ml_X2_3 : Cond.methodLink RX2 3 objectInit ∈ zT := zt1 (k := 39) (by decide +kernel) rfl
theorem fl_X2_15 : Cond.fieldLink RX2 15 RX2 "pool" "LTwoLevels$Pool;" ∈ zT := zt1 (k := 40) (by decide +kernel) rfl
theorem fl_X2_9 : Cond.fieldLink RX2 9 RX2 "firsts" "[I" ∈ zT := zt1 (k := 41) (by decide +kernel) rfl
theorem fl_X2_25 : Cond.fieldLink RX2 25 RX2 "moves" "I" ∈ zT := zt1 (k := 42) (by decide +kernel) rfl
theorem ac_int : Cond.arrayClass .int ∈ zT := zt1 (k := 51) (by decide +kernel) rfl
theorem cl_X4_25 : Cond.classLink RX4 25 RX0 ∈ zT := zt1 (k := 52) (by decide +kernel) rfl
theorem it_X0 : Cond.instantiable RX0 4 ∈ zT := zt1 (k := 53) (by decide +kernel) rfl
theorem ml_X4_27 : Cond.methodLink RX4 27 yX0_init ∈ zT := zt1 (k := 54) (by decide +kernel) rfl
theorem im_X0_init : Cond.instanceMethod yX0_init ∈ zT := zt1 (k := 55) (by decide +kernel) rfl
theorem cd_X0_init : Cond.code yX0_init cX0_init 3 none ∈ zT := zt1 (k := 56) (by decide +kernel) rfl
theorem ml_X0_3 : Cond.methodLink RX0 3 objectInit ∈ zT := zt1 (k := 57) (by decide +kernel) rfl
theorem fl_X0_15 : Cond.fieldLink RX0 15 RX0 "pool" "LTwoLevels$Pool;" ∈ zT := zt1 (k := 58) (by decide +kernel) rfl
theorem fl_X0_19 : Cond.fieldLink RX0 19 RX0 "lists" "LTwoLevels$Lists;" ∈ zT := zt1 (k := 59) (by decide +kernel) rfl
theorem fl_X0_9 : Cond.fieldLink RX0 9 RX0 "marks" "[I" ∈ zT := zt1 (k := 60) (by decide +kernel) rfl
theorem fl_X0_29 : Cond.fieldLink RX0 29 RX0 "wrongAt" "I" ∈ zT := zt1 (k := 61) (by decide +kernel) rfl
theorem ml_X4_34 : Cond.methodLink RX4 34 yX4_begin ∈ zT := zt1 (k := 72) (by decide +kernel) rfl
theorem im_X4_begin : Cond.instanceMethod yX4_begin ∈ zT := zt1 (k := 74) (by decide +kernel) rfl
theorem cd_X4_begin : Cond.code yX4_begin cX4_begin 2 none ∈ zT := zt1 (k := 75) (by decide +kernel) rfl
theorem ml_X4_165 : Cond.methodLink RX4 165 yX3_clear ∈ zT := zt1 (k := 76) (by decide +kernel) rfl
theorem im_X3_clear : Cond.instanceMethod yX3_clear ∈ zT := zt1 (k := 77) (by decide +kernel) rfl
theorem se_X3_clear : Cond.selects RX3 yX3_clear yX3_clear ∈ zT := zt1 (k := 78) (by decide +kernel) rfl
theorem cd_X3_clear : Cond.code yX3_clear cX3_clear 2 none ∈ zT := zt1 (k := 79) (by decide +kernel) rfl
theorem ml_X3_15 : Cond.methodLink RX3 15 yJ7_fill_d0a16 ∈ zT := zt1 (k := 80) (by decide +kernel) rfl
theorem st_J7_fill_d0a16 : Cond.static yJ7_fill_d0a16 ∈ zT := zt1 (k := 81) (by decide +kernel) rfl
theorem cd_J7_fill_d0a16 : Cond.code yJ7_fill_d0a16 cJ7_fill_d0a16 5 none ∈ zT := zt1 (k := 82) (by decide +kernel) rfl
theorem ml_X4_168 : Cond.methodLink RX4 168 yX2_clear ∈ zT := zt1 (k := 83) (by decide +kernel) rfl
theorem im_X2_clear : Cond.instanceMethod yX2_clear ∈ zT := zt1 (k := 84) (by decide +kernel) rfl
theorem se_X2_clear : Cond.selects RX2 yX2_clear yX2_clear ∈ zT := zt1 (k := 85) (by decide +kernel) rfl
theorem cd_X2_clear : Cond.code yX2_clear cX2_clear 1 none ∈ zT := zt1 (k := 86) (by decide +kernel) rfl
theorem ml_X2_19 : Cond.methodLink RX2 19 yJ7_fill_53178 ∈ zT := zt1 (k := 87) (by decide +kernel) rfl
theorem st_J7_fill_53178 : Cond.static yJ7_fill_53178 ∈ zT := zt1 (k := 88) (by decide +kernel) rfl
theorem cd_J7_fill_53178 : Cond.code yJ7_fill_53178 cJ7_fill_53178 4 none ∈ zT := zt1 (k := 89) (by decide +kernel) rfl
theorem ml_X4_170 : Cond.methodLink RX4 170 yX4_makeFree ∈ zT := zt1 (k := 90) (by decide +kernel) rfl
theorem im_X4_makeFree : Cond.instanceMethod yX4_makeFree ∈ zT := zt1 (k := 92) (by decide +kernel) rfl
theorem cd_X4_makeFree : Cond.code yX4_makeFree cX4_makeFree 3 none ∈ zT := zt1 (k := 93) (by decide +kernel) rfl
theorem ml_X4_108 : Cond.methodLink RX4 108 yX3_layHeader ∈ zT := zt1 (k := 94) (by decide +kernel) rfl
theorem im_X3_layHeader : Cond.instanceMethod yX3_layHeader ∈ zT := zt1 (k := 95) (by decide +kernel) rfl
theorem se_X3_layHeader : Cond.selects RX3 yX3_layHeader yX3_layHeader ∈ zT := zt1 (k := 96) (by decide +kernel) rfl
theorem cd_X3_layHeader : Cond.code yX3_layHeader cX3_layHeader 4 none ∈ zT := zt1 (k := 97) (by decide +kernel) rfl
theorem kl_X3_29 : Cond.constantLong RX3 29 (4) ∈ zT := zt1 (k := 98) (by decide +kernel) rfl
theorem ml_X3_33 : Cond.methodLink RX3 33 yX3_lay ∈ zT := zt1 (k := 99) (by decide +kernel) rfl
theorem im_X3_lay : Cond.instanceMethod yX3_lay ∈ zT := zt1 (k := 100) (by decide +kernel) rfl
theorem se_X3_lay : Cond.selects RX3 yX3_lay yX3_lay ∈ zT := zt1 (k := 101) (by decide +kernel) rfl
theorem cd_X3_lay : Cond.code yX3_lay cX3_lay 4 none ∈ zT := zt1 (k := 102) (by decide +kernel) rfl
theorem ml_X4_112 : Cond.methodLink RX4 112 yX3_lay ∈ zT := zt1 (k := 103) (by decide +kernel) rfl
theorem ml_X4_199 : Cond.methodLink RX4 199 yX2_come ∈ zT := zt1 (k := 104) (by decide +kernel) rfl
theorem im_X2_come : Cond.instanceMethod yX2_come ∈ zT := zt1 (k := 105) (by decide +kernel) rfl
theorem se_X2_come : Cond.selects RX2 yX2_come yX2_come ∈ zT := zt1 (k := 106) (by decide +kernel) rfl
theorem cd_X2_come : Cond.code yX2_come cX2_come 5 none ∈ zT := zt1 (k := 107) (by decide +kernel) rfl
theorem ml_X2_29 : Cond.methodLink RX2 29 yX3_bodyOf ∈ zT := zt1 (k := 108) (by decide +kernel) rfl
theorem im_X3_bodyOf : Cond.instanceMethod yX3_bodyOf ∈ zT := zt1 (k := 109) (by decide +kernel) rfl
theorem se_X3_bodyOf : Cond.selects RX3 yX3_bodyOf yX3_bodyOf ∈ zT := zt1 (k := 110) (by decide +kernel) rfl
theorem cd_X3_bodyOf : Cond.code yX3_bodyOf cX3_bodyOf 2 (some .int) ∈ zT := zt1 (k := 111) (by decide +kernel) rfl
theorem ml_X3_25 : Cond.methodLink RX3 25 yX3_at ∈ zT := zt1 (k := 112) (by decide +kernel) rfl
theorem im_X3_at : Cond.instanceMethod yX3_at ∈ zT := zt1 (k := 113) (by decide +kernel) rfl
theorem se_X3_at : Cond.selects RX3 yX3_at yX3_at ∈ zT := zt1 (k := 114) (by decide +kernel) rfl
theorem cd_X3_at : Cond.code yX3_at cX3_at 2 (some .long) ∈ zT := zt1 (k := 115) (by decide +kernel) rfl
theorem ml_X2_35 : Cond.methodLink RX2 35 yX1_ofBody ∈ zT := zt1 (k := 116) (by decide +kernel) rfl
theorem st_X1_ofBody : Cond.static yX1_ofBody ∈ zT := zt1 (k := 117) (by decide +kernel) rfl
theorem cd_X1_ofBody : Cond.code yX1_ofBody cX1_ofBody 2 (some .int) ∈ zT := zt1 (k := 118) (by decide +kernel) rfl
theorem ml_X1_9 : Cond.methodLink RX1 9 yX1_stepShift ∈ zT := zt1 (k := 119) (by decide +kernel) rfl
theorem st_X1_stepShift : Cond.static yX1_stepShift ∈ zT := zt1 (k := 120) (by decide +kernel) rfl
theorem cd_X1_stepShift : Cond.code yX1_stepShift cX1_stepShift 1 (some .int) ∈ zT := zt1 (k := 121) (by decide +kernel) rfl
theorem ml_X1_21 : Cond.methodLink RX1 21 yJ6_numberOfLeadingZeros_0f7a4 ∈ zT := zt1 (k := 122) (by decide +kernel) rfl
theorem st_J6_numberOfLeadingZeros_0f7a4 : Cond.static yJ6_numberOfLeadingZeros_0f7a4 ∈ zT := zt1 (k := 123) (by decide +kernel) rfl
theorem cd_J6_numberOfLeadingZeros_0f7a4 : Cond.code yJ6_numberOfLeadingZeros_0f7a4 cJ6_numberOfLeadingZeros_0f7a4 2 (some .int) ∈ zT := zt1 (k := 124) (by decide +kernel) rfl
theorem kc_J6_264 : Cond.constant RJ6 264 (65536) ∈ zT := zt1 (k := 125) (by decide +kernel) rfl
theorem ml_X2_40 : Cond.methodLink RX2 40 yX2_firstOf ∈ zT := zt1 (k := 126) (by decide +kernel) rfl
theorem im_X2_firstOf : Cond.instanceMethod yX2_firstOf ∈ zT := zt1 (k := 127) (by decide +kernel) rfl
theorem se_X2_firstOf : Cond.selects RX2 yX2_firstOf yX2_firstOf ∈ zT := zt1 (k := 128) (by decide +kernel) rfl
theorem cd_X2_firstOf : Cond.code yX2_firstOf cX2_firstOf 2 (some .int) ∈ zT := zt1 (k := 129) (by decide +kernel) rfl
theorem ml_X2_43 : Cond.methodLink RX2 43 yX3_lay ∈ zT := zt1 (k := 130) (by decide +kernel) rfl
theorem ml_X2_47 : Cond.methodLink RX2 47 yX2_layFirst ∈ zT := zt1 (k := 131) (by decide +kernel) rfl
theorem im_X2_layFirst : Cond.instanceMethod yX2_layFirst ∈ zT := zt1 (k := 133) (by decide +kernel) rfl
theorem cd_X2_layFirst : Cond.code yX2_layFirst cX2_layFirst 3 none ∈ zT := zt1 (k := 134) (by decide +kernel) rfl
theorem ml_X4_187 : Cond.methodLink RX4 187 yX3_tellBehind ∈ zT := zt1 (k := 135) (by decide +kernel) rfl
theorem im_X3_tellBehind : Cond.instanceMethod yX3_tellBehind ∈ zT := zt1 (k := 136) (by decide +kernel) rfl
theorem se_X3_tellBehind : Cond.selects RX3 yX3_tellBehind yX3_tellBehind ∈ zT := zt1 (k := 137) (by decide +kernel) rfl
theorem cd_X3_tellBehind : Cond.code yX3_tellBehind cX3_tellBehind 5 none ∈ zT := zt1 (k := 138) (by decide +kernel) rfl
theorem ml_X3_43 : Cond.methodLink RX3 43 yX3_behind ∈ zT := zt1 (k := 139) (by decide +kernel) rfl
theorem im_X3_behind : Cond.instanceMethod yX3_behind ∈ zT := zt1 (k := 140) (by decide +kernel) rfl
theorem se_X3_behind : Cond.selects RX3 yX3_behind yX3_behind ∈ zT := zt1 (k := 141) (by decide +kernel) rfl
theorem cd_X3_behind : Cond.code yX3_behind cX3_behind 2 (some .int) ∈ zT := zt1 (k := 142) (by decide +kernel) rfl
theorem kl_X3_47 : Cond.constantLong RX3 47 (-3) ∈ zT := zt1 (k := 143) (by decide +kernel) rfl
theorem ml_X3_49 : Cond.methodLink RX3 49 yX3_isFree ∈ zT := zt1 (k := 144) (by decide +kernel) rfl
theorem im_X3_isFree : Cond.instanceMethod yX3_isFree ∈ zT := zt1 (k := 145) (by decide +kernel) rfl
theorem se_X3_isFree : Cond.selects RX3 yX3_isFree yX3_isFree ∈ zT := zt1 (k := 146) (by decide +kernel) rfl
theorem cd_X3_isFree : Cond.code yX3_isFree cX3_isFree 2 (some .boolean) ∈ zT := zt1 (k := 147) (by decide +kernel) rfl
theorem kl_X3_31 : Cond.constantLong RX3 31 (2) ∈ zT := zt1 (k := 148) (by decide +kernel) rfl
theorem ml_X4_57 : Cond.methodLink RX4 57 yX2_forgetMoves ∈ zT := zt1 (k := 149) (by decide +kernel) rfl
theorem im_X2_forgetMoves : Cond.instanceMethod yX2_forgetMoves ∈ zT := zt1 (k := 150) (by decide +kernel) rfl
theorem se_X2_forgetMoves : Cond.selects RX2 yX2_forgetMoves yX2_forgetMoves ∈ zT := zt1 (k := 151) (by decide +kernel) rfl
theorem cd_X2_forgetMoves : Cond.code yX2_forgetMoves cX2_forgetMoves 1 none ∈ zT := zt1 (k := 152) (by decide +kernel) rfl
theorem fl_X4_12 : Cond.fieldLink RX4 12 RX4 "pool" "LTwoLevels$Pool;" ∈ zT := zt1 (k := 153) (by decide +kernel) rfl
theorem fl_X4_21 : Cond.fieldLink RX4 21 RX4 "lists" "LTwoLevels$Lists;" ∈ zT := zt1 (k := 154) (by decide +kernel) rfl
theorem fl_X4_30 : Cond.fieldLink RX4 30 RX4 "checker" "LTwoLevels$Checker;" ∈ zT := zt1 (k := 155) (by decide +kernel) rfl
theorem fl_X4_42 : Cond.fieldLink RX4 42 RX4 "spoilt" "Z" ∈ zT := zt1 (k := 156) (by decide +kernel) rfl
theorem fl_X4_152 : Cond.fieldLink RX4 152 RX4 "refusals" "I" ∈ zT := zt1 (k := 157) (by decide +kernel) rfl
theorem ml_L_13 : Cond.methodLink RL 13 yX4_open ∈ zT := zt1 (k := 169) (by decide +kernel) rfl
theorem im_X4_open : Cond.instanceMethod yX4_open ∈ zT := zt1 (k := 170) (by decide +kernel) rfl
theorem se_X4_open : Cond.selects RX4 yX4_open yX4_open ∈ zT := zt1 (k := 171) (by decide +kernel) rfl
theorem cd_X4_open : Cond.code yX4_open cX4_open 2 (some .int) ∈ zT := zt1 (k := 172) (by decide +kernel) rfl
theorem ml_L_18 : Cond.methodLink RL 18 yX4_alloc ∈ zT := zt1 (k := 173) (by decide +kernel) rfl
theorem im_X4_alloc : Cond.instanceMethod yX4_alloc ∈ zT := zt1 (k := 174) (by decide +kernel) rfl
theorem se_X4_alloc : Cond.selects RX4 yX4_alloc yX4_alloc ∈ zT := zt1 (k := 175) (by decide +kernel) rfl
theorem cd_X4_alloc : Cond.code yX4_alloc cX4_alloc 4 (some .int) ∈ zT := zt1 (k := 176) (by decide +kernel) rfl
theorem ml_X4_38 : Cond.methodLink RX4 38 yX4_isWish ∈ zT := zt1 (k := 177) (by decide +kernel) rfl
theorem st_X4_isWish : Cond.static yX4_isWish ∈ zT := zt1 (k := 178) (by decide +kernel) rfl
theorem cd_X4_isWish : Cond.code yX4_isWish cX4_isWish 1 (some .boolean) ∈ zT := zt1 (k := 179) (by decide +kernel) rfl
theorem ml_X4_46 : Cond.methodLink RX4 46 yX4_bodyFor ∈ zT := zt1 (k := 180) (by decide +kernel) rfl
theorem st_X4_bodyFor : Cond.static yX4_bodyFor ∈ zT := zt1 (k := 181) (by decide +kernel) rfl
theorem cd_X4_bodyFor : Cond.code yX4_bodyFor cX4_bodyFor 1 (some .int) ∈ zT := zt1 (k := 182) (by decide +kernel) rfl
theorem ml_X4_173 : Cond.methodLink RX4 173 Lib.Math.max.name ∈ zT := zt1 (k := 183) (by decide +kernel) rfl
theorem st_J9_max : Cond.static Lib.Math.max.name ∈ zT := zt1 (k := 184) (by decide +kernel) rfl
theorem cd_J9_max : Cond.code Lib.Math.max.name Lib.Math.max.code 2 (some .int) ∈ zT := zt1 (k := 185) (by decide +kernel) rfl
theorem ml_X4_50 : Cond.methodLink RX4 50 yX2_headerFor ∈ zT := zt1 (k := 186) (by decide +kernel) rfl
theorem im_X2_headerFor : Cond.instanceMethod yX2_headerFor ∈ zT := zt1 (k := 187) (by decide +kernel) rfl
theorem se_X2_headerFor : Cond.selects RX2 yX2_headerFor yX2_headerFor ∈ zT := zt1 (k := 188) (by decide +kernel) rfl
theorem cd_X2_headerFor : Cond.code yX2_headerFor cX2_headerFor 3 (some .int) ∈ zT := zt1 (k := 189) (by decide +kernel) rfl
theorem ml_X2_55 : Cond.methodLink RX2 55 yX1_ofWish ∈ zT := zt1 (k := 190) (by decide +kernel) rfl
theorem st_X1_ofWish : Cond.static yX1_ofWish ∈ zT := zt1 (k := 191) (by decide +kernel) rfl
theorem cd_X1_ofWish : Cond.code yX1_ofWish cX1_ofWish 2 (some .int) ∈ zT := zt1 (k := 192) (by decide +kernel) rfl
theorem ml_X1_18 : Cond.methodLink RX1 18 yX1_ofBody ∈ zT := zt1 (k := 194) (by decide +kernel) rfl
theorem ml_X4_53 : Cond.methodLink RX4 53 yX4_refuse ∈ zT := zt1 (k := 195) (by decide +kernel) rfl
theorem im_X4_refuse : Cond.instanceMethod yX4_refuse ∈ zT := zt1 (k := 197) (by decide +kernel) rfl
theorem cd_X4_refuse : Cond.code yX4_refuse cX4_refuse 1 (some .int) ∈ zT := zt1 (k := 198) (by decide +kernel) rfl
theorem ml_X4_60 : Cond.methodLink RX4 60 yX4_take ∈ zT := zt1 (k := 199) (by decide +kernel) rfl
theorem im_X4_take : Cond.instanceMethod yX4_take ∈ zT := zt1 (k := 201) (by decide +kernel) rfl
theorem cd_X4_take : Cond.code yX4_take cX4_take 2 none ∈ zT := zt1 (k := 202) (by decide +kernel) rfl
theorem ml_X4_184 : Cond.methodLink RX4 184 yX2_leave ∈ zT := zt1 (k := 203) (by decide +kernel) rfl
theorem im_X2_leave : Cond.instanceMethod yX2_leave ∈ zT := zt1 (k := 204) (by decide +kernel) rfl
theorem se_X2_leave : Cond.selects RX2 yX2_leave yX2_leave ∈ zT := zt1 (k := 205) (by decide +kernel) rfl
theorem cd_X2_leave : Cond.code yX2_leave cX2_leave 5 none ∈ zT := zt1 (k := 206) (by decide +kernel) rfl
theorem ml_X2_51 : Cond.methodLink RX2 51 yX3_at ∈ zT := zt1 (k := 207) (by decide +kernel) rfl
theorem ml_X4_89 : Cond.methodLink RX4 89 yX3_bodyOf ∈ zT := zt1 (k := 208) (by decide +kernel) rfl
theorem ml_X4_63 : Cond.methodLink RX4 63 yX4_cutTo ∈ zT := zt1 (k := 209) (by decide +kernel) rfl
theorem im_X4_cutTo : Cond.instanceMethod yX4_cutTo ∈ zT := zt1 (k := 211) (by decide +kernel) rfl
theorem cd_X4_cutTo : Cond.code yX4_cutTo cX4_cutTo 5 none ∈ zT := zt1 (k := 212) (by decide +kernel) rfl
theorem ml_X4_190 : Cond.methodLink RX4 190 yX3_layBody ∈ zT := zt1 (k := 213) (by decide +kernel) rfl
theorem im_X3_layBody : Cond.instanceMethod yX3_layBody ∈ zT := zt1 (k := 214) (by decide +kernel) rfl
theorem se_X3_layBody : Cond.selects RX3 yX3_layBody yX3_layBody ∈ zT := zt1 (k := 215) (by decide +kernel) rfl
theorem cd_X3_layBody : Cond.code yX3_layBody cX3_layBody 3 none ∈ zT := zt1 (k := 216) (by decide +kernel) rfl
theorem kl_X3_37 : Cond.constantLong RX3 37 (3) ∈ zT := zt1 (k := 217) (by decide +kernel) rfl
theorem ml_X3_39 : Cond.methodLink RX3 39 yX3_layHeader ∈ zT := zt1 (k := 218) (by decide +kernel) rfl
theorem ml_X4_181 : Cond.methodLink RX4 181 yX3_behind ∈ zT := zt1 (k := 219) (by decide +kernel) rfl
theorem ml_X4_83 : Cond.methodLink RX4 83 yX4_release ∈ zT := zt1 (k := 220) (by decide +kernel) rfl
theorem im_X4_release : Cond.instanceMethod yX4_release ∈ zT := zt1 (k := 222) (by decide +kernel) rfl
theorem cd_X4_release : Cond.code yX4_release cX4_release 5 (some .int) ∈ zT := zt1 (k := 223) (by decide +kernel) rfl
theorem ml_X4_105 : Cond.methodLink RX4 105 yX3_isFree ∈ zT := zt1 (k := 224) (by decide +kernel) rfl
theorem ml_X4_193 : Cond.methodLink RX4 193 yX3_isAheadFree ∈ zT := zt1 (k := 225) (by decide +kernel) rfl
theorem im_X3_isAheadFree : Cond.instanceMethod yX3_isAheadFree ∈ zT := zt1 (k := 226) (by decide +kernel) rfl
theorem se_X3_isAheadFree : Cond.selects RX3 yX3_isAheadFree yX3_isAheadFree ∈ zT := zt1 (k := 227) (by decide +kernel) rfl
theorem cd_X3_isAheadFree : Cond.code yX3_isAheadFree cX3_isAheadFree 2 (some .boolean) ∈ zT := zt1 (k := 228) (by decide +kernel) rfl
theorem ml_X4_196 : Cond.methodLink RX4 196 yX3_freeAhead ∈ zT := zt1 (k := 229) (by decide +kernel) rfl
theorem im_X3_freeAhead : Cond.instanceMethod yX3_freeAhead ∈ zT := zt1 (k := 230) (by decide +kernel) rfl
theorem se_X3_freeAhead : Cond.selects RX3 yX3_freeAhead yX3_freeAhead ∈ zT := zt1 (k := 231) (by decide +kernel) rfl
theorem cd_X3_freeAhead : Cond.code yX3_freeAhead cX3_freeAhead 2 (some .int) ∈ zT := zt1 (k := 232) (by decide +kernel) rfl
theorem ml_L_22 : Cond.methodLink RL 22 yX4_aligned ∈ zT := zt1 (k := 233) (by decide +kernel) rfl
theorem im_X4_aligned : Cond.instanceMethod yX4_aligned ∈ zT := zt1 (k := 234) (by decide +kernel) rfl
theorem se_X4_aligned : Cond.selects RX4 yX4_aligned yX4_aligned ∈ zT := zt1 (k := 235) (by decide +kernel) rfl
theorem cd_X4_aligned : Cond.code yX4_aligned cX4_aligned 6 (some .int) ∈ zT := zt1 (k := 236) (by decide +kernel) rfl
theorem ml_X4_67 : Cond.methodLink RX4 67 yX4_isAlignment ∈ zT := zt1 (k := 237) (by decide +kernel) rfl
theorem st_X4_isAlignment : Cond.static yX4_isAlignment ∈ zT := zt1 (k := 238) (by decide +kernel) rfl
theorem cd_X4_isAlignment : Cond.code yX4_isAlignment cX4_isAlignment 1 (some .boolean) ∈ zT := zt1 (k := 239) (by decide +kernel) rfl
theorem ml_X4_70 : Cond.methodLink RX4 70 yX4_mostAhead ∈ zT := zt2 (k := 0) (by decide +kernel) rfl
theorem st_X4_mostAhead : Cond.static yX4_mostAhead ∈ zT := zt2 (k := 1) (by decide +kernel) rfl
theorem cd_X4_mostAhead : Cond.code yX4_mostAhead cX4_mostAhead 1 (some .int) ∈ zT := zt2 (k := 2) (by decide +kernel) rfl
theorem ml_X4_73 : Cond.methodLink RX4 73 yX4_alignedPlace ∈ zT := zt2 (k := 3) (by decide +kernel) rfl
theorem st_X4_alignedPlace : Cond.static yX4_alignedPlace ∈ zT := zt2 (k := 4) (by decide +kernel) rfl
theorem cd_X4_alignedPlace : Cond.code yX4_alignedPlace cX4_alignedPlace 3 (some .int) ∈ zT := zt2 (k := 5) (by decide +kernel) rfl
theorem ml_X4_77 : Cond.methodLink RX4 77 yX4_splitBefore ∈ zT := zt2 (k := 6) (by decide +kernel) rfl
theorem im_X4_splitBefore : Cond.instanceMethod yX4_splitBefore ∈ zT := zt2 (k := 8) (by decide +kernel) rfl
theorem cd_X4_splitBefore : Cond.code yX4_splitBefore cX4_splitBefore 3 none ∈ zT := zt2 (k := 9) (by decide +kernel) rfl
theorem ml_L_27 : Cond.methodLink RL 27 yX4_free ∈ zT := zt2 (k := 10) (by decide +kernel) rfl
theorem im_X4_free : Cond.instanceMethod yX4_free ∈ zT := zt2 (k := 11) (by decide +kernel) rfl
theorem se_X4_free : Cond.selects RX4 yX4_free yX4_free ∈ zT := zt2 (k := 12) (by decide +kernel) rfl
theorem cd_X4_free : Cond.code yX4_free cX4_free 3 (some .int) ∈ zT := zt2 (k := 13) (by decide +kernel) rfl
theorem ml_X4_80 : Cond.methodLink RX4 80 yX4_refusalOf ∈ zT := zt2 (k := 14) (by decide +kernel) rfl
theorem im_X4_refusalOf : Cond.instanceMethod yX4_refusalOf ∈ zT := zt2 (k := 16) (by decide +kernel) rfl
theorem cd_X4_refusalOf : Cond.code yX4_refusalOf cX4_refusalOf 2 (some .int) ∈ zT := zt2 (k := 17) (by decide +kernel) rfl
theorem ml_X4_178 : Cond.methodLink RX4 178 yX4_isUsedPlace ∈ zT := zt2 (k := 18) (by decide +kernel) rfl
theorem im_X4_isUsedPlace : Cond.instanceMethod yX4_isUsedPlace ∈ zT := zt2 (k := 20) (by decide +kernel) rfl
theorem cd_X4_isUsedPlace : Cond.code yX4_isUsedPlace cX4_isUsedPlace 4 (some .boolean) ∈ zT := zt2 (k := 21) (by decide +kernel) rfl
theorem ml_X4_120 : Cond.methodLink RX4 120 yX3_has ∈ zT := zt2 (k := 22) (by decide +kernel) rfl
theorem im_X3_has : Cond.instanceMethod yX3_has ∈ zT := zt2 (k := 23) (by decide +kernel) rfl
theorem se_X3_has : Cond.selects RX3 yX3_has yX3_has ∈ zT := zt2 (k := 24) (by decide +kernel) rfl
theorem cd_X3_has : Cond.code yX3_has cX3_has 2 (some .boolean) ∈ zT := zt2 (k := 25) (by decide +kernel) rfl
theorem ml_L_31 : Cond.methodLink RL 31 yX4_resize ∈ zT := zt2 (k := 26) (by decide +kernel) rfl
theorem im_X4_resize : Cond.instanceMethod yX4_resize ∈ zT := zt2 (k := 27) (by decide +kernel) rfl
theorem se_X4_resize : Cond.selects RX4 yX4_resize yX4_resize ∈ zT := zt2 (k := 28) (by decide +kernel) rfl
theorem cd_X4_resize : Cond.code yX4_resize cX4_resize 7 (some .int) ∈ zT := zt2 (k := 29) (by decide +kernel) rfl
theorem ml_X4_86 : Cond.methodLink RX4 86 yX4_bodyWithBehind ∈ zT := zt2 (k := 30) (by decide +kernel) rfl
theorem im_X4_bodyWithBehind : Cond.instanceMethod yX4_bodyWithBehind ∈ zT := zt2 (k := 32) (by decide +kernel) rfl
theorem cd_X4_bodyWithBehind : Cond.code yX4_bodyWithBehind cX4_bodyWithBehind 4 (some .int) ∈ zT := zt2 (k := 33) (by decide +kernel) rfl
theorem ml_X4_92 : Cond.methodLink RX4 92 yX4_joinBehind ∈ zT := zt2 (k := 34) (by decide +kernel) rfl
theorem im_X4_joinBehind : Cond.instanceMethod yX4_joinBehind ∈ zT := zt2 (k := 36) (by decide +kernel) rfl
theorem cd_X4_joinBehind : Cond.code yX4_joinBehind cX4_joinBehind 3 none ∈ zT := zt2 (k := 37) (by decide +kernel) rfl
theorem ml_X4_95 : Cond.methodLink RX4 95 yX4_copyBody ∈ zT := zt2 (k := 38) (by decide +kernel) rfl
theorem im_X4_copyBody : Cond.instanceMethod yX4_copyBody ∈ zT := zt2 (k := 40) (by decide +kernel) rfl
theorem cd_X4_copyBody : Cond.code yX4_copyBody cX4_copyBody 5 none ∈ zT := zt2 (k := 41) (by decide +kernel) rfl
theorem ml_X4_202 : Cond.methodLink RX4 202 Lib.Math.min.name ∈ zT := zt2 (k := 42) (by decide +kernel) rfl
theorem st_J9_min : Cond.static Lib.Math.min.name ∈ zT := zt2 (k := 43) (by decide +kernel) rfl
theorem cd_J9_min : Cond.code Lib.Math.min.name Lib.Math.min.code 2 (some .int) ∈ zT := zt2 (k := 44) (by decide +kernel) rfl
theorem ml_X4_116 : Cond.methodLink RX4 116 yX3_at ∈ zT := zt2 (k := 45) (by decide +kernel) rfl
theorem ml_L_35 : Cond.methodLink RL 35 yX4_grow ∈ zT := zt2 (k := 46) (by decide +kernel) rfl
theorem im_X4_grow : Cond.instanceMethod yX4_grow ∈ zT := zt2 (k := 47) (by decide +kernel) rfl
theorem se_X4_grow : Cond.selects RX4 yX4_grow yX4_grow ∈ zT := zt2 (k := 48) (by decide +kernel) rfl
theorem cd_X4_grow : Cond.code yX4_grow cX4_grow 4 (some .int) ∈ zT := zt2 (k := 49) (by decide +kernel) rfl
theorem ml_X4_102 : Cond.methodLink RX4 102 yX4_lastHeader ∈ zT := zt2 (k := 50) (by decide +kernel) rfl
theorem im_X4_lastHeader : Cond.instanceMethod yX4_lastHeader ∈ zT := zt2 (k := 52) (by decide +kernel) rfl
theorem cd_X4_lastHeader : Cond.code yX4_lastHeader cX4_lastHeader 3 (some .int) ∈ zT := zt2 (k := 53) (by decide +kernel) rfl
theorem ml_L_39 : Cond.methodLink RL 39 yX4_size ∈ zT := zt2 (k := 54) (by decide +kernel) rfl
theorem im_X4_size : Cond.instanceMethod yX4_size ∈ zT := zt2 (k := 55) (by decide +kernel) rfl
theorem se_X4_size : Cond.selects RX4 yX4_size yX4_size ∈ zT := zt2 (k := 56) (by decide +kernel) rfl
theorem cd_X4_size : Cond.code yX4_size cX4_size 3 (some .int) ∈ zT := zt2 (k := 57) (by decide +kernel) rfl
theorem ml_L_45 : Cond.methodLink RL 45 yX4_put ∈ zT := zt2 (k := 58) (by decide +kernel) rfl
theorem im_X4_put : Cond.instanceMethod yX4_put ∈ zT := zt2 (k := 59) (by decide +kernel) rfl
theorem se_X4_put : Cond.selects RX4 yX4_put yX4_put ∈ zT := zt2 (k := 60) (by decide +kernel) rfl
theorem cd_X4_put : Cond.code yX4_put cX4_put 6 (some .int) ∈ zT := zt2 (k := 61) (by decide +kernel) rfl
theorem ml_L_50 : Cond.methodLink RL 50 yX4_word ∈ zT := zt2 (k := 62) (by decide +kernel) rfl
theorem im_X4_word : Cond.instanceMethod yX4_word ∈ zT := zt2 (k := 63) (by decide +kernel) rfl
theorem se_X4_word : Cond.selects RX4 yX4_word yX4_word ∈ zT := zt2 (k := 64) (by decide +kernel) rfl
theorem cd_X4_word : Cond.code yX4_word cX4_word 2 (some .long) ∈ zT := zt2 (k := 65) (by decide +kernel) rfl
theorem ml_L_55 : Cond.methodLink RL 55 yX4_spoil ∈ zT := zt2 (k := 66) (by decide +kernel) rfl
theorem im_X4_spoil : Cond.instanceMethod yX4_spoil ∈ zT := zt2 (k := 67) (by decide +kernel) rfl
theorem se_X4_spoil : Cond.selects RX4 yX4_spoil yX4_spoil ∈ zT := zt2 (k := 68) (by decide +kernel) rfl
theorem cd_X4_spoil : Cond.code yX4_spoil cX4_spoil 4 (some .int) ∈ zT := zt2 (k := 69) (by decide +kernel) rfl
theorem ml_L_60 : Cond.methodLink RL 60 yX4_check ∈ zT := zt2 (k := 70) (by decide +kernel) rfl
theorem im_X4_check : Cond.instanceMethod yX4_check ∈ zT := zt2 (k := 71) (by decide +kernel) rfl
theorem se_X4_check : Cond.selects RX4 yX4_check yX4_check ∈ zT := zt2 (k := 72) (by decide +kernel) rfl
theorem cd_X4_check : Cond.code yX4_check cX4_check 2 (some .int) ∈ zT := zt2 (k := 73) (by decide +kernel) rfl
theorem ml_X4_123 : Cond.methodLink RX4 123 yX0_run ∈ zT := zt2 (k := 74) (by decide +kernel) rfl
theorem im_X0_run : Cond.instanceMethod yX0_run ∈ zT := zt2 (k := 75) (by decide +kernel) rfl
theorem se_X0_run : Cond.selects RX0 yX0_run yX0_run ∈ zT := zt2 (k := 76) (by decide +kernel) rfl
theorem cd_X0_run : Cond.code yX0_run cX0_run 3 (some .int) ∈ zT := zt2 (k := 77) (by decide +kernel) rfl
theorem ml_X0_23 : Cond.methodLink RX0 23 yJ7_fill_53178 ∈ zT := zt2 (k := 78) (by decide +kernel) rfl
theorem ml_X0_33 : Cond.methodLink RX0 33 yX0_readBlocks ∈ zT := zt2 (k := 79) (by decide +kernel) rfl
theorem im_X0_readBlocks : Cond.instanceMethod yX0_readBlocks ∈ zT := zt2 (k := 81) (by decide +kernel) rfl
theorem cd_X0_readBlocks : Cond.code yX0_readBlocks cX0_readBlocks 5 (some .int) ∈ zT := zt2 (k := 82) (by decide +kernel) rfl
theorem ml_X0_49 : Cond.methodLink RX0 49 yX0_wrongOfBlock ∈ zT := zt2 (k := 83) (by decide +kernel) rfl
theorem im_X0_wrongOfBlock : Cond.instanceMethod yX0_wrongOfBlock ∈ zT := zt2 (k := 85) (by decide +kernel) rfl
theorem cd_X0_wrongOfBlock : Cond.code yX0_wrongOfBlock cX0_wrongOfBlock 7 (some .int) ∈ zT := zt2 (k := 86) (by decide +kernel) rfl
theorem ml_X0_68 : Cond.methodLink RX0 68 yX3_at ∈ zT := zt2 (k := 87) (by decide +kernel) rfl
theorem kl_X0_72 : Cond.constantLong RX0 72 (4) ∈ zT := zt2 (k := 88) (by decide +kernel) rfl
theorem kl_X0_74 : Cond.constantLong RX0 74 (3) ∈ zT := zt2 (k := 89) (by decide +kernel) rfl
theorem ml_X0_76 : Cond.methodLink RX0 76 yX3_isAheadFree ∈ zT := zt2 (k := 90) (by decide +kernel) rfl
theorem ml_X0_57 : Cond.methodLink RX0 57 yX3_isFree ∈ zT := zt2 (k := 91) (by decide +kernel) rfl
theorem ml_X0_53 : Cond.methodLink RX0 53 yX0_tell ∈ zT := zt2 (k := 92) (by decide +kernel) rfl
theorem im_X0_tell : Cond.instanceMethod yX0_tell ∈ zT := zt2 (k := 94) (by decide +kernel) rfl
theorem cd_X0_tell : Cond.code yX0_tell cX0_tell 3 (some .int) ∈ zT := zt2 (k := 95) (by decide +kernel) rfl
theorem ml_X0_61 : Cond.methodLink RX0 61 yX0_mark ∈ zT := zt2 (k := 96) (by decide +kernel) rfl
theorem im_X0_mark : Cond.instanceMethod yX0_mark ∈ zT := zt2 (k := 98) (by decide +kernel) rfl
theorem cd_X0_mark : Cond.code yX0_mark cX0_mark 3 none ∈ zT := zt2 (k := 99) (by decide +kernel) rfl
theorem ml_X0_65 : Cond.methodLink RX0 65 yX3_behind ∈ zT := zt2 (k := 100) (by decide +kernel) rfl
theorem ml_X0_37 : Cond.methodLink RX0 37 yX0_readList ∈ zT := zt2 (k := 101) (by decide +kernel) rfl
theorem im_X0_readList : Cond.instanceMethod yX0_readList ∈ zT := zt2 (k := 103) (by decide +kernel) rfl
theorem cd_X0_readList : Cond.code yX0_readList cX0_readList 6 (some .int) ∈ zT := zt2 (k := 104) (by decide +kernel) rfl
theorem ml_X0_79 : Cond.methodLink RX0 79 yX2_firstOf ∈ zT := zt2 (k := 105) (by decide +kernel) rfl
theorem ml_X0_84 : Cond.methodLink RX0 84 yX0_isLinked ∈ zT := zt2 (k := 106) (by decide +kernel) rfl
theorem im_X0_isLinked : Cond.instanceMethod yX0_isLinked ∈ zT := zt2 (k := 108) (by decide +kernel) rfl
theorem cd_X0_isLinked : Cond.code yX0_isLinked cX0_isLinked 6 (some .boolean) ∈ zT := zt2 (k := 109) (by decide +kernel) rfl
theorem ml_X0_88 : Cond.methodLink RX0 88 yX0_markOf ∈ zT := zt2 (k := 110) (by decide +kernel) rfl
theorem im_X0_markOf : Cond.instanceMethod yX0_markOf ∈ zT := zt2 (k := 112) (by decide +kernel) rfl
theorem cd_X0_markOf : Cond.code yX0_markOf cX0_markOf 2 (some .int) ∈ zT := zt2 (k := 113) (by decide +kernel) rfl
theorem ml_X0_91 : Cond.methodLink RX0 91 yX3_bodyOf ∈ zT := zt2 (k := 114) (by decide +kernel) rfl
theorem ml_X0_94 : Cond.methodLink RX0 94 yX1_ofBody ∈ zT := zt2 (k := 115) (by decide +kernel) rfl
theorem ml_X0_41 : Cond.methodLink RX0 41 yX0_seekLost ∈ zT := zt2 (k := 116) (by decide +kernel) rfl
theorem im_X0_seekLost : Cond.instanceMethod yX0_seekLost ∈ zT := zt2 (k := 118) (by decide +kernel) rfl
theorem cd_X0_seekLost : Cond.code yX0_seekLost cX0_seekLost 2 (some .int) ∈ zT := zt2 (k := 119) (by decide +kernel) rfl
theorem ml_L_65 : Cond.methodLink RL 65 yX4_where ∈ zT := zt2 (k := 120) (by decide +kernel) rfl
theorem im_X4_where : Cond.instanceMethod yX4_where ∈ zT := zt2 (k := 121) (by decide +kernel) rfl
theorem se_X4_where : Cond.selects RX4 yX4_where yX4_where ∈ zT := zt2 (k := 122) (by decide +kernel) rfl
theorem cd_X4_where : Cond.code yX4_where cX4_where 1 (some .int) ∈ zT := zt2 (k := 123) (by decide +kernel) rfl
theorem ml_L_69 : Cond.methodLink RL 69 yX4_classOf ∈ zT := zt2 (k := 124) (by decide +kernel) rfl
theorem im_X4_classOf : Cond.instanceMethod yX4_classOf ∈ zT := zt2 (k := 125) (by decide +kernel) rfl
theorem se_X4_classOf : Cond.selects RX4 yX4_classOf yX4_classOf ∈ zT := zt2 (k := 126) (by decide +kernel) rfl
theorem cd_X4_classOf : Cond.code yX4_classOf cX4_classOf 3 (some .int) ∈ zT := zt2 (k := 127) (by decide +kernel) rfl
theorem ml_X4_129 : Cond.methodLink RX4 129 yX1_ofWish ∈ zT := zt2 (k := 128) (by decide +kernel) rfl
theorem ml_X4_134 : Cond.methodLink RX4 134 yX1_ofBody ∈ zT := zt2 (k := 129) (by decide +kernel) rfl
theorem ml_L_74 : Cond.methodLink RL 74 yX4_listed ∈ zT := zt2 (k := 130) (by decide +kernel) rfl
theorem im_X4_listed : Cond.instanceMethod yX4_listed ∈ zT := zt2 (k := 131) (by decide +kernel) rfl
theorem se_X4_listed : Cond.selects RX4 yX4_listed yX4_listed ∈ zT := zt2 (k := 132) (by decide +kernel) rfl
theorem cd_X4_listed : Cond.code yX4_listed cX4_listed 3 (some .int) ∈ zT := zt2 (k := 133) (by decide +kernel) rfl
theorem ml_X4_137 : Cond.methodLink RX4 137 yX2_placeInList ∈ zT := zt2 (k := 134) (by decide +kernel) rfl
theorem im_X2_placeInList : Cond.instanceMethod yX2_placeInList ∈ zT := zt2 (k := 135) (by decide +kernel) rfl
theorem se_X2_placeInList : Cond.selects RX2 yX2_placeInList yX2_placeInList ∈ zT := zt2 (k := 136) (by decide +kernel) rfl
theorem cd_X2_placeInList : Cond.code yX2_placeInList cX2_placeInList 5 (some .int) ∈ zT := zt2 (k := 137) (by decide +kernel) rfl
theorem ml_L_78 : Cond.methodLink RL 78 yX4_bits ∈ zT := zt2 (k := 138) (by decide +kernel) rfl
theorem im_X4_bits : Cond.instanceMethod yX4_bits ∈ zT := zt2 (k := 139) (by decide +kernel) rfl
theorem se_X4_bits : Cond.selects RX4 yX4_bits yX4_bits ∈ zT := zt2 (k := 140) (by decide +kernel) rfl
theorem cd_X4_bits : Cond.code yX4_bits cX4_bits 2 (some .int) ∈ zT := zt2 (k := 141) (by decide +kernel) rfl
theorem ml_X4_140 : Cond.methodLink RX4 140 yX2_levelBits ∈ zT := zt2 (k := 142) (by decide +kernel) rfl
theorem im_X2_levelBits : Cond.instanceMethod yX2_levelBits ∈ zT := zt2 (k := 143) (by decide +kernel) rfl
theorem se_X2_levelBits : Cond.selects RX2 yX2_levelBits yX2_levelBits ∈ zT := zt2 (k := 144) (by decide +kernel) rfl
theorem cd_X2_levelBits : Cond.code yX2_levelBits cX2_levelBits 3 (some .int) ∈ zT := zt2 (k := 145) (by decide +kernel) rfl
theorem ml_X2_58 : Cond.methodLink RX2 58 yX2_stepBits ∈ zT := zt2 (k := 146) (by decide +kernel) rfl
theorem im_X2_stepBits : Cond.instanceMethod yX2_stepBits ∈ zT := zt2 (k := 147) (by decide +kernel) rfl
theorem se_X2_stepBits : Cond.selects RX2 yX2_stepBits yX2_stepBits ∈ zT := zt2 (k := 148) (by decide +kernel) rfl
theorem cd_X2_stepBits : Cond.code yX2_stepBits cX2_stepBits 4 (some .int) ∈ zT := zt2 (k := 149) (by decide +kernel) rfl
theorem ml_X4_143 : Cond.methodLink RX4 143 yX2_stepBits ∈ zT := zt2 (k := 150) (by decide +kernel) rfl
theorem ml_L_82 : Cond.methodLink RL 82 yX4_block ∈ zT := zt2 (k := 151) (by decide +kernel) rfl
theorem im_X4_block : Cond.instanceMethod yX4_block ∈ zT := zt2 (k := 152) (by decide +kernel) rfl
theorem se_X4_block : Cond.selects RX4 yX4_block yX4_block ∈ zT := zt2 (k := 153) (by decide +kernel) rfl
theorem cd_X4_block : Cond.code yX4_block cX4_block 4 (some .int) ∈ zT := zt2 (k := 154) (by decide +kernel) rfl
theorem ml_X4_146 : Cond.methodLink RX4 146 yX4_headerOfBlock ∈ zT := zt2 (k := 155) (by decide +kernel) rfl
theorem im_X4_headerOfBlock : Cond.instanceMethod yX4_headerOfBlock ∈ zT := zt2 (k := 157) (by decide +kernel) rfl
theorem cd_X4_headerOfBlock : Cond.code yX4_headerOfBlock cX4_headerOfBlock 4 (some .int) ∈ zT := zt2 (k := 158) (by decide +kernel) rfl
theorem ml_L_86 : Cond.methodLink RL 86 yX4_found ∈ zT := zt2 (k := 159) (by decide +kernel) rfl
theorem im_X4_found : Cond.instanceMethod yX4_found ∈ zT := zt2 (k := 160) (by decide +kernel) rfl
theorem se_X4_found : Cond.selects RX4 yX4_found yX4_found ∈ zT := zt2 (k := 161) (by decide +kernel) rfl
theorem cd_X4_found : Cond.code yX4_found cX4_found 3 (some .int) ∈ zT := zt2 (k := 162) (by decide +kernel) rfl
theorem ml_L_90 : Cond.methodLink RL 90 yX4_count ∈ zT := zt2 (k := 163) (by decide +kernel) rfl
theorem im_X4_count : Cond.instanceMethod yX4_count ∈ zT := zt2 (k := 164) (by decide +kernel) rfl
theorem se_X4_count : Cond.selects RX4 yX4_count yX4_count ∈ zT := zt2 (k := 165) (by decide +kernel) rfl
theorem cd_X4_count : Cond.code yX4_count cX4_count 2 (some .int) ∈ zT := zt2 (k := 166) (by decide +kernel) rfl
theorem ml_X4_155 : Cond.methodLink RX4 155 yX4_wordsOf ∈ zT := zt2 (k := 167) (by decide +kernel) rfl
theorem im_X4_wordsOf : Cond.instanceMethod yX4_wordsOf ∈ zT := zt2 (k := 169) (by decide +kernel) rfl
theorem cd_X4_wordsOf : Cond.code yX4_wordsOf cX4_wordsOf 5 (some .int) ∈ zT := zt2 (k := 170) (by decide +kernel) rfl
theorem ml_X4_159 : Cond.methodLink RX4 159 yX4_blocksOf ∈ zT := zt2 (k := 171) (by decide +kernel) rfl
theorem im_X4_blocksOf : Cond.instanceMethod yX4_blocksOf ∈ zT := zt2 (k := 173) (by decide +kernel) rfl
theorem cd_X4_blocksOf : Cond.code yX4_blocksOf cX4_blocksOf 5 (some .int) ∈ zT := zt2 (k := 174) (by decide +kernel) rfl
theorem ml_X4_162 : Cond.methodLink RX4 162 yX4_mostFree ∈ zT := zt2 (k := 175) (by decide +kernel) rfl
theorem im_X4_mostFree : Cond.instanceMethod yX4_mostFree ∈ zT := zt2 (k := 177) (by decide +kernel) rfl
theorem cd_X4_mostFree : Cond.code yX4_mostFree cX4_mostFree 4 (some .int) ∈ zT := zt2 (k := 178) (by decide +kernel) rfl
theorem cl_L_10 : Cond.classLink RL 10 RX5 ∈ zT := zt2 (k := 179) (by decide +kernel) rfl
theorem it_X5 : Cond.instantiable RX5 9 ∈ zT := zt2 (k := 180) (by decide +kernel) rfl
theorem ml_L_12 : Cond.methodLink RL 12 yX5_init ∈ zT := zt2 (k := 181) (by decide +kernel) rfl
theorem im_X5_init : Cond.instanceMethod yX5_init ∈ zT := zt2 (k := 182) (by decide +kernel) rfl
theorem cd_X5_init : Cond.code yX5_init cX5_init 1 none ∈ zT := zt2 (k := 183) (by decide +kernel) rfl
theorem ml_X5_1 : Cond.methodLink RX5 1 objectInit ∈ zT := zt2 (k := 184) (by decide +kernel) rfl
theorem ml_X5_28 : Cond.methodLink RX5 28 yX5_lay ∈ zT := zt2 (k := 185) (by decide +kernel) rfl
theorem im_X5_lay : Cond.instanceMethod yX5_lay ∈ zT := zt2 (k := 187) (by decide +kernel) rfl
theorem cd_X5_lay : Cond.code yX5_lay cX5_lay 3 none ∈ zT := zt2 (k := 188) (by decide +kernel) rfl
theorem ml_X5_42 : Cond.methodLink RX5 42 yX5_lend ∈ zT := zt2 (k := 189) (by decide +kernel) rfl
theorem im_X5_lend : Cond.instanceMethod yX5_lend ∈ zT := zt2 (k := 191) (by decide +kernel) rfl
theorem cd_X5_lend : Cond.code yX5_lend cX5_lend 6 none ∈ zT := zt2 (k := 192) (by decide +kernel) rfl
theorem ml_X5_57 : Cond.methodLink RX5 57 yX5_classIn ∈ zT := zt2 (k := 193) (by decide +kernel) rfl
theorem st_X5_classIn : Cond.static yX5_classIn ∈ zT := zt2 (k := 194) (by decide +kernel) rfl
theorem cd_X5_classIn : Cond.code yX5_classIn cX5_classIn 2 (some .int) ∈ zT := zt2 (k := 195) (by decide +kernel) rfl
theorem kl_X5_73 : Cond.constantLong RX5 73 (4) ∈ zT := zt2 (k := 196) (by decide +kernel) rfl
theorem ml_X5_75 : Cond.methodLink RX5 75 yX5_behind ∈ zT := zt2 (k := 197) (by decide +kernel) rfl
theorem im_X5_behind : Cond.instanceMethod yX5_behind ∈ zT := zt2 (k := 199) (by decide +kernel) rfl
theorem cd_X5_behind : Cond.code yX5_behind cX5_behind 3 (some .int) ∈ zT := zt2 (k := 200) (by decide +kernel) rfl
theorem ml_X5_66 : Cond.methodLink RX5 66 yX5_words ∈ zT := zt2 (k := 201) (by decide +kernel) rfl
theorem im_X5_words : Cond.instanceMethod yX5_words ∈ zT := zt2 (k := 203) (by decide +kernel) rfl
theorem cd_X5_words : Cond.code yX5_words cX5_words 2 (some .int) ∈ zT := zt2 (k := 204) (by decide +kernel) rfl
theorem ml_X5_78 : Cond.methodLink RX5 78 yX5_tell ∈ zT := zt2 (k := 205) (by decide +kernel) rfl
theorem im_X5_tell : Cond.instanceMethod yX5_tell ∈ zT := zt2 (k := 207) (by decide +kernel) rfl
theorem cd_X5_tell : Cond.code yX5_tell cX5_tell 3 none ∈ zT := zt2 (k := 208) (by decide +kernel) rfl
theorem kl_X5_69 : Cond.constantLong RX5 69 (2) ∈ zT := zt2 (k := 209) (by decide +kernel) rfl
theorem kl_X5_71 : Cond.constantLong RX5 71 (-3) ∈ zT := zt2 (k := 210) (by decide +kernel) rfl
theorem fl_X5_7 : Cond.fieldLink RX5 7 RX5 "pool" "[J" ∈ zT := zt2 (k := 211) (by decide +kernel) rfl
theorem fl_X5_32 : Cond.fieldLink RX5 32 RX5 "size" "I" ∈ zT := zt2 (k := 212) (by decide +kernel) rfl
theorem fl_X5_13 : Cond.fieldLink RX5 13 RX5 "first" "[I" ∈ zT := zt2 (k := 213) (by decide +kernel) rfl
theorem fl_X5_46 : Cond.fieldLink RX5 46 RX5 "links" "I" ∈ zT := zt2 (k := 214) (by decide +kernel) rfl
theorem fl_X5_39 : Cond.fieldLink RX5 39 RX5 "refused" "I" ∈ zT := zt2 (k := 215) (by decide +kernel) rfl
theorem fl_X5_35 : Cond.fieldLink RX5 35 RX5 "isSpoilt" "Z" ∈ zT := zt2 (k := 216) (by decide +kernel) rfl
theorem fl_X5_17 : Cond.fieldLink RX5 17 RX5 "wrongAt" "I" ∈ zT := zt2 (k := 217) (by decide +kernel) rfl
theorem fl_X5_21 : Cond.fieldLink RX5 21 RX5 "met" "[Z" ∈ zT := zt2 (k := 218) (by decide +kernel) rfl
theorem fl_X5_25 : Cond.fieldLink RX5 25 RX5 "begins" "[Z" ∈ zT := zt2 (k := 219) (by decide +kernel) rfl
theorem ac_boolean : Cond.arrayClass .boolean ∈ zT := zt2 (k := 239) (by decide +kernel) rfl
theorem ml_L_17 : Cond.methodLink RL 17 yX5_open ∈ zT := zt3 (k := 0) (by decide +kernel) rfl
theorem im_X5_open : Cond.instanceMethod yX5_open ∈ zT := zt3 (k := 1) (by decide +kernel) rfl
theorem se_X5_open : Cond.selects RX5 yX5_open yX5_open ∈ zT := zt3 (k := 2) (by decide +kernel) rfl
theorem cd_X5_open : Cond.code yX5_open cX5_open 2 (some .int) ∈ zT := zt3 (k := 3) (by decide +kernel) rfl
theorem kl_X5_49 : Cond.constantLong RX5 49 (16) ∈ zT := zt3 (k := 4) (by decide +kernel) rfl
theorem kl_X5_51 : Cond.constantLong RX5 51 (2048) ∈ zT := zt3 (k := 5) (by decide +kernel) rfl
theorem ml_X5_53 : Cond.methodLink RX5 53 yX5_in ∈ zT := zt3 (k := 6) (by decide +kernel) rfl
theorem st_X5_in : Cond.static yX5_in ∈ zT := zt3 (k := 7) (by decide +kernel) rfl
theorem cd_X5_in : Cond.code yX5_in cX5_in 6 (some .boolean) ∈ zT := zt3 (k := 8) (by decide +kernel) rfl
theorem ml_L_73 : Cond.methodLink RL 73 yX5_classOf ∈ zT := zt3 (k := 9) (by decide +kernel) rfl
theorem im_X5_classOf : Cond.instanceMethod yX5_classOf ∈ zT := zt3 (k := 10) (by decide +kernel) rfl
theorem se_X5_classOf : Cond.selects RX5 yX5_classOf yX5_classOf ∈ zT := zt3 (k := 11) (by decide +kernel) rfl
theorem cd_X5_classOf : Cond.code yX5_classOf cX5_classOf 3 (some .int) ∈ zT := zt3 (k := 12) (by decide +kernel) rfl
theorem kl_X5_61 : Cond.constantLong RX5 61 (4095) ∈ zT := zt3 (k := 13) (by decide +kernel) rfl
theorem ml_X5_63 : Cond.methodLink RX5 63 yX5_wishIn ∈ zT := zt3 (k := 14) (by decide +kernel) rfl
theorem st_X5_wishIn : Cond.static yX5_wishIn ∈ zT := zt3 (k := 15) (by decide +kernel) rfl
theorem cd_X5_wishIn : Cond.code yX5_wishIn cX5_wishIn 2 (some .int) ∈ zT := zt3 (k := 16) (by decide +kernel) rfl
theorem ml_L_21 : Cond.methodLink RL 21 yX5_alloc ∈ zT := zt3 (k := 17) (by decide +kernel) rfl
theorem im_X5_alloc : Cond.instanceMethod yX5_alloc ∈ zT := zt3 (k := 18) (by decide +kernel) rfl
theorem se_X5_alloc : Cond.selects RX5 yX5_alloc yX5_alloc ∈ zT := zt3 (k := 19) (by decide +kernel) rfl
theorem cd_X5_alloc : Cond.code yX5_alloc cX5_alloc 3 (some .int) ∈ zT := zt3 (k := 20) (by decide +kernel) rfl
theorem ml_X5_86 : Cond.methodLink RX5 86 yX5_lookFor ∈ zT := zt3 (k := 21) (by decide +kernel) rfl
theorem im_X5_lookFor : Cond.instanceMethod yX5_lookFor ∈ zT := zt3 (k := 23) (by decide +kernel) rfl
theorem cd_X5_lookFor : Cond.code yX5_lookFor cX5_lookFor 3 (some .int) ∈ zT := zt3 (k := 24) (by decide +kernel) rfl
theorem ml_X5_89 : Cond.methodLink RX5 89 yX5_leave ∈ zT := zt3 (k := 25) (by decide +kernel) rfl
theorem im_X5_leave : Cond.instanceMethod yX5_leave ∈ zT := zt3 (k := 27) (by decide +kernel) rfl
theorem cd_X5_leave : Cond.code yX5_leave cX5_leave 4 none ∈ zT := zt3 (k := 28) (by decide +kernel) rfl
theorem ml_X5_92 : Cond.methodLink RX5 92 yX5_least ∈ zT := zt3 (k := 29) (by decide +kernel) rfl
theorem st_X5_least : Cond.static yX5_least ∈ zT := zt3 (k := 30) (by decide +kernel) rfl
theorem cd_X5_least : Cond.code yX5_least cX5_least 1 (some .int) ∈ zT := zt3 (k := 31) (by decide +kernel) rfl
theorem ml_X5_95 : Cond.methodLink RX5 95 yX5_take ∈ zT := zt3 (k := 32) (by decide +kernel) rfl
theorem im_X5_take : Cond.instanceMethod yX5_take ∈ zT := zt3 (k := 34) (by decide +kernel) rfl
theorem cd_X5_take : Cond.code yX5_take cX5_take 6 none ∈ zT := zt3 (k := 35) (by decide +kernel) rfl
theorem ml_L_26 : Cond.methodLink RL 26 yX5_aligned ∈ zT := zt3 (k := 36) (by decide +kernel) rfl
theorem im_X5_aligned : Cond.instanceMethod yX5_aligned ∈ zT := zt3 (k := 37) (by decide +kernel) rfl
theorem se_X5_aligned : Cond.selects RX5 yX5_aligned yX5_aligned ∈ zT := zt3 (k := 38) (by decide +kernel) rfl
theorem cd_X5_aligned : Cond.code yX5_aligned cX5_aligned 7 (some .int) ∈ zT := zt3 (k := 39) (by decide +kernel) rfl
theorem ml_L_30 : Cond.methodLink RL 30 yX5_free ∈ zT := zt3 (k := 40) (by decide +kernel) rfl
theorem im_X5_free : Cond.instanceMethod yX5_free ∈ zT := zt3 (k := 41) (by decide +kernel) rfl
theorem se_X5_free : Cond.selects RX5 yX5_free yX5_free ∈ zT := zt3 (k := 42) (by decide +kernel) rfl
theorem cd_X5_free : Cond.code yX5_free cX5_free 2 (some .int) ∈ zT := zt3 (k := 43) (by decide +kernel) rfl
theorem ml_X5_99 : Cond.methodLink RX5 99 yX5_isBad ∈ zT := zt3 (k := 44) (by decide +kernel) rfl
theorem im_X5_isBad : Cond.instanceMethod yX5_isBad ∈ zT := zt3 (k := 46) (by decide +kernel) rfl
theorem cd_X5_isBad : Cond.code yX5_isBad cX5_isBad 3 (some .boolean) ∈ zT := zt3 (k := 47) (by decide +kernel) rfl
theorem ml_X5_82 : Cond.methodLink RX5 82 yX5_isFree ∈ zT := zt3 (k := 48) (by decide +kernel) rfl
theorem im_X5_isFree : Cond.instanceMethod yX5_isFree ∈ zT := zt3 (k := 50) (by decide +kernel) rfl
theorem cd_X5_isFree : Cond.code yX5_isFree cX5_isFree 2 (some .boolean) ∈ zT := zt3 (k := 51) (by decide +kernel) rfl
theorem ml_X5_102 : Cond.methodLink RX5 102 yX5_release ∈ zT := zt3 (k := 52) (by decide +kernel) rfl
theorem im_X5_release : Cond.instanceMethod yX5_release ∈ zT := zt3 (k := 54) (by decide +kernel) rfl
theorem cd_X5_release : Cond.code yX5_release cX5_release 6 (some .int) ∈ zT := zt3 (k := 55) (by decide +kernel) rfl
theorem ml_L_34 : Cond.methodLink RL 34 yX5_resize ∈ zT := zt3 (k := 56) (by decide +kernel) rfl
theorem im_X5_resize : Cond.instanceMethod yX5_resize ∈ zT := zt3 (k := 57) (by decide +kernel) rfl
theorem se_X5_resize : Cond.selects RX5 yX5_resize yX5_resize ∈ zT := zt3 (k := 58) (by decide +kernel) rfl
theorem cd_X5_resize : Cond.code yX5_resize cX5_resize 10 (some .int) ∈ zT := zt3 (k := 59) (by decide +kernel) rfl
theorem ml_X5_105 : Cond.methodLink RX5 105 yX5_moved ∈ zT := zt3 (k := 60) (by decide +kernel) rfl
theorem im_X5_moved : Cond.instanceMethod yX5_moved ∈ zT := zt3 (k := 62) (by decide +kernel) rfl
theorem cd_X5_moved : Cond.code yX5_moved cX5_moved 6 (some .int) ∈ zT := zt3 (k := 63) (by decide +kernel) rfl
theorem ml_L_38 : Cond.methodLink RL 38 yX5_grow ∈ zT := zt3 (k := 64) (by decide +kernel) rfl
theorem im_X5_grow : Cond.instanceMethod yX5_grow ∈ zT := zt3 (k := 65) (by decide +kernel) rfl
theorem se_X5_grow : Cond.selects RX5 yX5_grow yX5_grow ∈ zT := zt3 (k := 66) (by decide +kernel) rfl
theorem cd_X5_grow : Cond.code yX5_grow cX5_grow 4 (some .int) ∈ zT := zt3 (k := 67) (by decide +kernel) rfl
theorem kl_X5_109 : Cond.constantLong RX5 109 (1024) ∈ zT := zt3 (k := 68) (by decide +kernel) rfl
theorem ml_L_42 : Cond.methodLink RL 42 yX5_size ∈ zT := zt3 (k := 69) (by decide +kernel) rfl
theorem im_X5_size : Cond.instanceMethod yX5_size ∈ zT := zt3 (k := 70) (by decide +kernel) rfl
theorem se_X5_size : Cond.selects RX5 yX5_size yX5_size ∈ zT := zt3 (k := 71) (by decide +kernel) rfl
theorem cd_X5_size : Cond.code yX5_size cX5_size 2 (some .int) ∈ zT := zt3 (k := 72) (by decide +kernel) rfl
theorem ml_L_49 : Cond.methodLink RL 49 yX5_put ∈ zT := zt3 (k := 73) (by decide +kernel) rfl
theorem im_X5_put : Cond.instanceMethod yX5_put ∈ zT := zt3 (k := 74) (by decide +kernel) rfl
theorem se_X5_put : Cond.selects RX5 yX5_put yX5_put ∈ zT := zt3 (k := 75) (by decide +kernel) rfl
theorem cd_X5_put : Cond.code yX5_put cX5_put 5 (some .int) ∈ zT := zt3 (k := 76) (by decide +kernel) rfl
theorem ml_L_54 : Cond.methodLink RL 54 yX5_word ∈ zT := zt3 (k := 77) (by decide +kernel) rfl
theorem im_X5_word : Cond.instanceMethod yX5_word ∈ zT := zt3 (k := 78) (by decide +kernel) rfl
theorem se_X5_word : Cond.selects RX5 yX5_word yX5_word ∈ zT := zt3 (k := 79) (by decide +kernel) rfl
theorem cd_X5_word : Cond.code yX5_word cX5_word 2 (some .long) ∈ zT := zt3 (k := 80) (by decide +kernel) rfl
theorem ml_L_59 : Cond.methodLink RL 59 yX5_spoil ∈ zT := zt3 (k := 81) (by decide +kernel) rfl
theorem im_X5_spoil : Cond.instanceMethod yX5_spoil ∈ zT := zt3 (k := 82) (by decide +kernel) rfl
theorem se_X5_spoil : Cond.selects RX5 yX5_spoil yX5_spoil ∈ zT := zt3 (k := 83) (by decide +kernel) rfl
theorem cd_X5_spoil : Cond.code yX5_spoil cX5_spoil 4 (some .int) ∈ zT := zt3 (k := 84) (by decide +kernel) rfl
theorem ml_L_64 : Cond.methodLink RL 64 yX5_check ∈ zT := zt3 (k := 85) (by decide +kernel) rfl
theorem im_X5_check : Cond.instanceMethod yX5_check ∈ zT := zt3 (k := 86) (by decide +kernel) rfl
theorem se_X5_check : Cond.selects RX5 yX5_check yX5_check ∈ zT := zt3 (k := 87) (by decide +kernel) rfl
theorem cd_X5_check : Cond.code yX5_check cX5_check 3 (some .int) ∈ zT := zt3 (k := 88) (by decide +kernel) rfl
theorem ml_X5_121 : Cond.methodLink RX5 121 yX5_checkBlocks ∈ zT := zt3 (k := 89) (by decide +kernel) rfl
theorem im_X5_checkBlocks : Cond.instanceMethod yX5_checkBlocks ∈ zT := zt3 (k := 91) (by decide +kernel) rfl
theorem cd_X5_checkBlocks : Cond.code yX5_checkBlocks cX5_checkBlocks 4 (some .int) ∈ zT := zt3 (k := 92) (by decide +kernel) rfl
theorem ml_X5_113 : Cond.methodLink RX5 113 yX5_wrongIn ∈ zT := zt3 (k := 93) (by decide +kernel) rfl
theorem im_X5_wrongIn : Cond.instanceMethod yX5_wrongIn ∈ zT := zt3 (k := 95) (by decide +kernel) rfl
theorem cd_X5_wrongIn : Cond.code yX5_wrongIn cX5_wrongIn 8 (some .int) ∈ zT := zt3 (k := 96) (by decide +kernel) rfl
theorem kl_X5_111 : Cond.constantLong RX5 111 (3) ∈ zT := zt3 (k := 97) (by decide +kernel) rfl
theorem ml_X5_117 : Cond.methodLink RX5 117 yX5_wrong ∈ zT := zt3 (k := 98) (by decide +kernel) rfl
theorem im_X5_wrong : Cond.instanceMethod yX5_wrong ∈ zT := zt3 (k := 100) (by decide +kernel) rfl
theorem cd_X5_wrong : Cond.code yX5_wrong cX5_wrong 3 (some .int) ∈ zT := zt3 (k := 101) (by decide +kernel) rfl
theorem ml_X5_125 : Cond.methodLink RX5 125 yX5_checkList ∈ zT := zt3 (k := 102) (by decide +kernel) rfl
theorem im_X5_checkList : Cond.instanceMethod yX5_checkList ∈ zT := zt3 (k := 104) (by decide +kernel) rfl
theorem cd_X5_checkList : Cond.code yX5_checkList cX5_checkList 6 (some .int) ∈ zT := zt3 (k := 105) (by decide +kernel) rfl
theorem ml_L_68 : Cond.methodLink RL 68 yX5_where ∈ zT := zt3 (k := 106) (by decide +kernel) rfl
theorem im_X5_where : Cond.instanceMethod yX5_where ∈ zT := zt3 (k := 107) (by decide +kernel) rfl
theorem se_X5_where : Cond.selects RX5 yX5_where yX5_where ∈ zT := zt3 (k := 108) (by decide +kernel) rfl
theorem cd_X5_where : Cond.code yX5_where cX5_where 1 (some .int) ∈ zT := zt3 (k := 109) (by decide +kernel) rfl
theorem ml_L_77 : Cond.methodLink RL 77 yX5_listed ∈ zT := zt3 (k := 110) (by decide +kernel) rfl
theorem im_X5_listed : Cond.instanceMethod yX5_listed ∈ zT := zt3 (k := 111) (by decide +kernel) rfl
theorem se_X5_listed : Cond.selects RX5 yX5_listed yX5_listed ∈ zT := zt3 (k := 112) (by decide +kernel) rfl
theorem cd_X5_listed : Cond.code yX5_listed cX5_listed 5 (some .int) ∈ zT := zt3 (k := 113) (by decide +kernel) rfl
theorem kl_X5_128 : Cond.constantLong RX5 128 (71) ∈ zT := zt3 (k := 114) (by decide +kernel) rfl
theorem ml_L_81 : Cond.methodLink RL 81 yX5_bits ∈ zT := zt3 (k := 115) (by decide +kernel) rfl
theorem im_X5_bits : Cond.instanceMethod yX5_bits ∈ zT := zt3 (k := 116) (by decide +kernel) rfl
theorem se_X5_bits : Cond.selects RX5 yX5_bits yX5_bits ∈ zT := zt3 (k := 117) (by decide +kernel) rfl
theorem cd_X5_bits : Cond.code yX5_bits cX5_bits 4 (some .int) ∈ zT := zt3 (k := 118) (by decide +kernel) rfl
theorem kl_X5_130 : Cond.constantLong RX5 130 (9) ∈ zT := zt3 (k := 119) (by decide +kernel) rfl
theorem ml_X5_132 : Cond.methodLink RX5 132 yX5_bitsIn ∈ zT := zt3 (k := 120) (by decide +kernel) rfl
theorem im_X5_bitsIn : Cond.instanceMethod yX5_bitsIn ∈ zT := zt3 (k := 122) (by decide +kernel) rfl
theorem cd_X5_bitsIn : Cond.code yX5_bitsIn cX5_bitsIn 4 (some .int) ∈ zT := zt3 (k := 123) (by decide +kernel) rfl
theorem ml_L_85 : Cond.methodLink RL 85 yX5_block ∈ zT := zt3 (k := 124) (by decide +kernel) rfl
theorem im_X5_block : Cond.instanceMethod yX5_block ∈ zT := zt3 (k := 125) (by decide +kernel) rfl
theorem se_X5_block : Cond.selects RX5 yX5_block yX5_block ∈ zT := zt3 (k := 126) (by decide +kernel) rfl
theorem cd_X5_block : Cond.code yX5_block cX5_block 5 (some .int) ∈ zT := zt3 (k := 127) (by decide +kernel) rfl
theorem ml_L_89 : Cond.methodLink RL 89 yX5_found ∈ zT := zt3 (k := 128) (by decide +kernel) rfl
theorem im_X5_found : Cond.instanceMethod yX5_found ∈ zT := zt3 (k := 129) (by decide +kernel) rfl
theorem se_X5_found : Cond.selects RX5 yX5_found yX5_found ∈ zT := zt3 (k := 130) (by decide +kernel) rfl
theorem cd_X5_found : Cond.code yX5_found cX5_found 3 (some .int) ∈ zT := zt3 (k := 131) (by decide +kernel) rfl
theorem ml_L_93 : Cond.methodLink RL 93 yX5_count ∈ zT := zt3 (k := 132) (by decide +kernel) rfl
theorem im_X5_count : Cond.instanceMethod yX5_count ∈ zT := zt3 (k := 133) (by decide +kernel) rfl
theorem se_X5_count : Cond.selects RX5 yX5_count yX5_count ∈ zT := zt3 (k := 134) (by decide +kernel) rfl
theorem cd_X5_count : Cond.code yX5_count cX5_count 2 (some .int) ∈ zT := zt3 (k := 135) (by decide +kernel) rfl
theorem kl_X5_135 : Cond.constantLong RX5 135 (8) ∈ zT := zt3 (k := 136) (by decide +kernel) rfl
theorem ml_X5_137 : Cond.methodLink RX5 137 yX5_counted ∈ zT := zt3 (k := 137) (by decide +kernel) rfl
theorem im_X5_counted : Cond.instanceMethod yX5_counted ∈ zT := zt3 (k := 139) (by decide +kernel) rfl
theorem cd_X5_counted : Cond.code yX5_counted cX5_counted 5 (some .int) ∈ zT := zt3 (k := 140) (by decide +kernel) rfl
theorem kl_L_43 : Cond.constantLong RL 43 (4294967295) ∈ zT := zt3 (k := 141) (by decide +kernel) rfl
theorem se_X4_begin : Cond.selects RX4 yX4_begin yX4_begin ∈ zT := zt0 (k := 0) (by decide +kernel) rfl
theorem se_X4_makeFree : Cond.selects RX4 yX4_makeFree yX4_makeFree ∈ zT := zt0 (k := 1) (by decide +kernel) rfl
theorem se_X2_layFirst : Cond.selects RX2 yX2_layFirst yX2_layFirst ∈ zT := zt0 (k := 2) (by decide +kernel) rfl
theorem se_X4_refuse : Cond.selects RX4 yX4_refuse yX4_refuse ∈ zT := zt0 (k := 3) (by decide +kernel) rfl
theorem se_X4_take : Cond.selects RX4 yX4_take yX4_take ∈ zT := zt0 (k := 4) (by decide +kernel) rfl
theorem se_X4_cutTo : Cond.selects RX4 yX4_cutTo yX4_cutTo ∈ zT := zt0 (k := 5) (by decide +kernel) rfl
theorem se_X4_release : Cond.selects RX4 yX4_release yX4_release ∈ zT := zt0 (k := 6) (by decide +kernel) rfl
theorem se_X4_splitBefore : Cond.selects RX4 yX4_splitBefore yX4_splitBefore ∈ zT := zt0 (k := 7) (by decide +kernel) rfl
theorem se_X4_refusalOf : Cond.selects RX4 yX4_refusalOf yX4_refusalOf ∈ zT := zt0 (k := 8) (by decide +kernel) rfl
theorem se_X4_isUsedPlace : Cond.selects RX4 yX4_isUsedPlace yX4_isUsedPlace ∈ zT := zt0 (k := 9) (by decide +kernel) rfl
theorem se_X4_bodyWithBehind : Cond.selects RX4 yX4_bodyWithBehind yX4_bodyWithBehind ∈ zT := zt0 (k := 10) (by decide +kernel) rfl
theorem se_X4_joinBehind : Cond.selects RX4 yX4_joinBehind yX4_joinBehind ∈ zT := zt0 (k := 11) (by decide +kernel) rfl
theorem se_X4_copyBody : Cond.selects RX4 yX4_copyBody yX4_copyBody ∈ zT := zt0 (k := 12) (by decide +kernel) rfl
theorem se_X4_lastHeader : Cond.selects RX4 yX4_lastHeader yX4_lastHeader ∈ zT := zt0 (k := 13) (by decide +kernel) rfl
theorem se_X0_readBlocks : Cond.selects RX0 yX0_readBlocks yX0_readBlocks ∈ zT := zt0 (k := 14) (by decide +kernel) rfl
theorem se_X0_wrongOfBlock : Cond.selects RX0 yX0_wrongOfBlock yX0_wrongOfBlock ∈ zT := zt0 (k := 15) (by decide +kernel) rfl
theorem se_X0_tell : Cond.selects RX0 yX0_tell yX0_tell ∈ zT := zt0 (k := 16) (by decide +kernel) rfl
theorem se_X0_mark : Cond.selects RX0 yX0_mark yX0_mark ∈ zT := zt0 (k := 17) (by decide +kernel) rfl
theorem se_X0_readList : Cond.selects RX0 yX0_readList yX0_readList ∈ zT := zt0 (k := 18) (by decide +kernel) rfl
theorem se_X0_isLinked : Cond.selects RX0 yX0_isLinked yX0_isLinked ∈ zT := zt0 (k := 19) (by decide +kernel) rfl
theorem se_X0_markOf : Cond.selects RX0 yX0_markOf yX0_markOf ∈ zT := zt0 (k := 20) (by decide +kernel) rfl
theorem se_X0_seekLost : Cond.selects RX0 yX0_seekLost yX0_seekLost ∈ zT := zt0 (k := 21) (by decide +kernel) rfl
theorem se_X4_headerOfBlock : Cond.selects RX4 yX4_headerOfBlock yX4_headerOfBlock ∈ zT := zt0 (k := 22) (by decide +kernel) rfl
theorem se_X4_wordsOf : Cond.selects RX4 yX4_wordsOf yX4_wordsOf ∈ zT := zt0 (k := 23) (by decide +kernel) rfl
theorem se_X4_blocksOf : Cond.selects RX4 yX4_blocksOf yX4_blocksOf ∈ zT := zt0 (k := 24) (by decide +kernel) rfl
theorem se_X4_mostFree : Cond.selects RX4 yX4_mostFree yX4_mostFree ∈ zT := zt0 (k := 25) (by decide +kernel) rfl
theorem se_X5_lay : Cond.selects RX5 yX5_lay yX5_lay ∈ zT := zt0 (k := 26) (by decide +kernel) rfl
theorem se_X5_lend : Cond.selects RX5 yX5_lend yX5_lend ∈ zT := zt0 (k := 27) (by decide +kernel) rfl
theorem se_X5_behind : Cond.selects RX5 yX5_behind yX5_behind ∈ zT := zt0 (k := 28) (by decide +kernel) rfl
theorem se_X5_words : Cond.selects RX5 yX5_words yX5_words ∈ zT := zt0 (k := 29) (by decide +kernel) rfl
theorem se_X5_tell : Cond.selects RX5 yX5_tell yX5_tell ∈ zT := zt0 (k := 30) (by decide +kernel) rfl
theorem se_X5_lookFor : Cond.selects RX5 yX5_lookFor yX5_lookFor ∈ zT := zt0 (k := 31) (by decide +kernel) rfl
theorem se_X5_leave : Cond.selects RX5 yX5_leave yX5_leave ∈ zT := zt0 (k := 32) (by decide +kernel) rfl
theorem se_X5_take : Cond.selects RX5 yX5_take yX5_take ∈ zT := zt0 (k := 33) (by decide +kernel) rfl
theorem se_X5_isBad : Cond.selects RX5 yX5_isBad yX5_isBad ∈ zT := zt0 (k := 34) (by decide +kernel) rfl
theorem se_X5_isFree : Cond.selects RX5 yX5_isFree yX5_isFree ∈ zT := zt0 (k := 35) (by decide +kernel) rfl
theorem se_X5_release : Cond.selects RX5 yX5_release yX5_release ∈ zT := zt0 (k := 36) (by decide +kernel) rfl
theorem se_X5_moved : Cond.selects RX5 yX5_moved yX5_moved ∈ zT := zt0 (k := 37) (by decide +kernel) rfl
theorem se_X5_checkBlocks : Cond.selects RX5 yX5_checkBlocks yX5_checkBlocks ∈ zT := zt0 (k := 38) (by decide +kernel) rfl
theorem se_X5_wrongIn : Cond.selects RX5 yX5_wrongIn yX5_wrongIn ∈ zT := zt0 (k := 39) (by decide +kernel) rfl
theorem se_X5_wrong : Cond.selects RX5 yX5_wrong yX5_wrong ∈ zT := zt0 (k := 40) (by decide +kernel) rfl
theorem se_X5_checkList : Cond.selects RX5 yX5_checkList yX5_checkList ∈ zT := zt0 (k := 41) (by decide +kernel) rfl
theorem se_X5_bitsIn : Cond.selects RX5 yX5_bitsIn yX5_bitsIn ∈ zT := zt0 (k := 42) (by decide +kernel) rfl
theorem se_X5_counted : Cond.selects RX5 yX5_counted yX5_counted ∈ zT := zt0 (k := 43) (by decide +kernel) rfl
theorem us_X0 : ∀ w ∈ u_ws RX0 TX0 4, w ∈ zT := by decide +kernel
theorem us_X2 : ∀ w ∈ u_ws RX2 TX2 3, w ∈ zT := by decide +kernel
theorem us_X3 : ∀ w ∈ u_ws RX3 TX3 2, w ∈ zT := by decide +kernel
theorem us_X4 : ∀ w ∈ u_ws RX4 TX4 5, w ∈ zT := by decide +kernel
theorem us_X5 : ∀ w ∈ u_ws RX5 TX5 9, w ∈ zT := by decide +kernel
end
section
theorem dX0_init_0 : decode cX0_init 0 = .ok (.aload_n 0, 1) := by decide +kernel
theorem dX0_init_1 : decode cX0_init 1 = .ok (.invokespecial 3, 3) := by decide +kernel
theorem dX0_init_4 : decode cX0_init 4 = .ok (.aload_n 0, 1) := by decide +kernel
theorem dX0_init_5 : decode cX0_init 5 = .ok (.sipush 2048, 3) := by decide +kernel
theorem dX0_init_8 : decode cX0_init 8 = .ok (.newarray .int, 2) := by decide +kernel
theorem dX0_init_10 : decode cX0_init 10 = .ok (.putfield 9, 3) := by decide +kernel
theorem dX0_init_13 : decode cX0_init 13 = .ok (.aload_n 0, 1) := by decide +kernel
theorem dX0_init_14 : decode cX0_init 14 = .ok (.aload_n 1, 1) := by decide +kernel
theorem dX0_init_15 : decode cX0_init 15 = .ok (.putfield 15, 3) := by decide +kernel
theorem dX0_init_18 : decode cX0_init 18 = .ok (.aload_n 0, 1) := by decide +kernel
theorem dX0_init_19 : decode cX0_init 19 = .ok (.aload_n 2, 1) := by decide +kernel
theorem dX0_init_20 : decode cX0_init 20 = .ok (.putfield 19, 3) := by decide +kernel
theorem dX0_init_23 : decode cX0_init 23 = .ok (.return_, 1) := by decide +kernel
theorem dX0_run_0 : decode cX0_run 0 = .ok (.aload_n 0, 1) := by decide +kernel
theorem dX0_run_1 : decode cX0_run 1 = .ok (.getfield 9, 3) := by decide +kernel
theorem dX0_run_4 : decode cX0_run 4 = .ok (.iconst 0, 1) := by decide +kernel
theorem dX0_run_5 : decode cX0_run 5 = .ok (.invokestatic 23, 3) := by decide +kernel
theorem dX0_run_8 : decode cX0_run 8 = .ok (.aload_n 0, 1) := by decide +kernel
theorem dX0_run_9 : decode cX0_run 9 = .ok (.iconst (-1), 1) := by decide +kernel
theorem dX0_run_10 : decode cX0_run 10 = .ok (.putfield 29, 3) := by decide +kernel
theorem dX0_run_13 : decode cX0_run 13 = .ok (.aload_n 0, 1) := by decide +kernel
theorem dX0_run_14 : decode cX0_run 14 = .ok (.invokevirtual 33, 3) := by decide +kernel
theorem dX0_run_17 : decode cX0_run 17 = .ok (.istore_n 1, 1) := by decide +kernel
theorem dX0_run_18 : decode cX0_run 18 = .ok (.iconst 0, 1) := by decide +kernel
theorem dX0_run_19 : decode cX0_run 19 = .ok (.istore_n 2, 1) := by decide +kernel
theorem dX0_run_20 : decode cX0_run 20 = .ok (.iload_n 2, 1) := by decide +kernel
theorem dX0_run_21 : decode cX0_run 21 = .ok (.bipush 72, 2) := by decide +kernel
theorem dX0_run_23 : decode cX0_run 23 = .ok (.if_icmp .ge 19, 3) := by decide +kernel
theorem dX0_run_26 : decode cX0_run 26 = .ok (.iload_n 1, 1) := by decide +kernel
theorem dX0_run_27 : decode cX0_run 27 = .ok (.ifCond .ne 15, 3) := by decide +kernel
theorem dX0_run_30 : decode cX0_run 30 = .ok (.aload_n 0, 1) := by decide +kernel
theorem dX0_run_31 : decode cX0_run 31 = .ok (.iload_n 2, 1) := by decide +kernel
theorem dX0_run_32 : decode cX0_run 32 = .ok (.invokevirtual 37, 3) := by decide +kernel
theorem dX0_run_35 : decode cX0_run 35 = .ok (.istore_n 1, 1) := by decide +kernel
theorem dX0_run_36 : decode cX0_run 36 = .ok (.iinc 2 1, 3) := by decide +kernel
theorem dX0_run_39 : decode cX0_run 39 = .ok (.goto (-19), 3) := by decide +kernel
theorem dX0_run_42 : decode cX0_run 42 = .ok (.iload_n 1, 1) := by decide +kernel
theorem dX0_run_43 : decode cX0_run 43 = .ok (.ifCond .eq 7, 3) := by decide +kernel
theorem dX0_run_46 : decode cX0_run 46 = .ok (.iload_n 1, 1) := by decide +kernel
theorem dX0_run_47 : decode cX0_run 47 = .ok (.goto 7, 3) := by decide +kernel
theorem dX0_run_50 : decode cX0_run 50 = .ok (.aload_n 0, 1) := by decide +kernel
theorem dX0_run_51 : decode cX0_run 51 = .ok (.invokevirtual 41, 3) := by decide +kernel
theorem dX0_run_54 : decode cX0_run 54 = .ok (.ireturn, 1) := by decide +kernel
theorem dX0_tell_0 : decode cX0_tell 0 = .ok (.aload_n 0, 1) := by decide +kernel
theorem dX0_tell_1 : decode cX0_tell 1 = .ok (.iload_n 2, 1) := by decide +kernel
theorem dX0_tell_2 : decode cX0_tell 2 = .ok (.putfield 29, 3) := by decide +kernel
theorem dX0_tell_5 : decode cX0_tell 5 = .ok (.iload_n 1, 1) := by decide +kernel
theorem dX0_tell_6 : decode cX0_tell 6 = .ok (.ireturn, 1) := by decide +kernel
theorem dX0_markOf_0 : decode cX0_markOf 0 = .ok (.iload_n 1, 1) := by decide +kernel
theorem dX0_markOf_1 : decode cX0_markOf 1 = .ok (.ifCond .lt 19, 3) := by decide +kernel
theorem dX0_markOf_4 : decode cX0_markOf 4 = .ok (.iload_n 1, 1) := by decide +kernel
theorem dX0_markOf_5 : decode cX0_markOf 5 = .ok (.sipush 2048, 3) := by decide +kernel
theorem dX0_markOf_8 : decode cX0_markOf 8 = .ok (.if_icmp .ge 12, 3) := by decide +kernel
theorem dX0_markOf_11 : decode cX0_markOf 11 = .ok (.aload_n 0, 1) := by decide +kernel
theorem dX0_markOf_12 : decode cX0_markOf 12 = .ok (.getfield 9, 3) := by decide +kernel
theorem dX0_markOf_15 : decode cX0_markOf 15 = .ok (.iload_n 1, 1) := by decide +kernel
theorem dX0_markOf_16 : decode cX0_markOf 16 = .ok (.iaload, 1) := by decide +kernel
theorem dX0_markOf_17 : decode cX0_markOf 17 = .ok (.goto 4, 3) := by decide +kernel
theorem dX0_markOf_20 : decode cX0_markOf 20 = .ok (.iconst 0, 1) := by decide +kernel
theorem dX0_markOf_21 : decode cX0_markOf 21 = .ok (.ireturn, 1) := by decide +kernel
theorem dX0_mark_0 : decode cX0_mark 0 = .ok (.iload_n 1, 1) := by decide +kernel
theorem dX0_mark_1 : decode cX0_mark 1 = .ok (.ifCond .lt 17, 3) := by decide +kernel
theorem dX0_mark_4 : decode cX0_mark 4 = .ok (.iload_n 1, 1) := by decide +kernel
theorem dX0_mark_5 : decode cX0_mark 5 = .ok (.sipush 2048, 3) := by decide +kernel
theorem dX0_mark_8 : decode cX0_mark 8 = .ok (.if_icmp .ge 10, 3) := by decide +kernel
theorem dX0_mark_11 : decode cX0_mark 11 = .ok (.aload_n 0, 1) := by decide +kernel
theorem dX0_mark_12 : decode cX0_mark 12 = .ok (.getfield 9, 3) := by decide +kernel
theorem dX0_mark_15 : decode cX0_mark 15 = .ok (.iload_n 1, 1) := by decide +kernel
theorem dX0_mark_16 : decode cX0_mark 16 = .ok (.iload_n 2, 1) := by decide +kernel
theorem dX0_mark_17 : decode cX0_mark 17 = .ok (.iastore, 1) := by decide +kernel
theorem dX0_mark_18 : decode cX0_mark 18 = .ok (.return_, 1) := by decide +kernel
theorem dX0_readBlocks_0 : decode cX0_readBlocks 0 = .ok (.iconst 0, 1) := by decide +kernel
theorem dX0_readBlocks_1 : decode cX0_readBlocks 1 = .ok (.istore_n 1, 1) := by decide +kernel
theorem dX0_readBlocks_2 : decode cX0_readBlocks 2 = .ok (.iconst 0, 1) := by decide +kernel
theorem dX0_readBlocks_3 : decode cX0_readBlocks 3 = .ok (.istore_n 2, 1) := by decide +kernel
theorem dX0_readBlocks_4 : decode cX0_readBlocks 4 = .ok (.iconst 0, 1) := by decide +kernel
theorem dX0_readBlocks_5 : decode cX0_readBlocks 5 = .ok (.istore_n 3, 1) := by decide +kernel
theorem dX0_readBlocks_6 : decode cX0_readBlocks 6 = .ok (.iload_n 3, 1) := by decide +kernel
theorem dX0_readBlocks_7 : decode cX0_readBlocks 7 = .ok (.sipush 512, 3) := by decide +kernel
theorem dX0_readBlocks_10 : decode cX0_readBlocks 10 = .ok (.if_icmp .ge 69, 3) := by decide +kernel
theorem dX0_readBlocks_13 : decode cX0_readBlocks 13 = .ok (.iload_n 1, 1) := by decide +kernel
theorem dX0_readBlocks_14 : decode cX0_readBlocks 14 = .ok (.aload_n 0, 1) := by decide +kernel
theorem dX0_readBlocks_15 : decode cX0_readBlocks 15 = .ok (.getfield 15, 3) := by decide +kernel
theorem dX0_readBlocks_18 : decode cX0_readBlocks 18 = .ok (.getfield 44, 3) := by decide +kernel
theorem dX0_readBlocks_21 : decode cX0_readBlocks 21 = .ok (.if_icmp .ge 58, 3) := by decide +kernel
theorem dX0_readBlocks_24 : decode cX0_readBlocks 24 = .ok (.aload_n 0, 1) := by decide +kernel
theorem dX0_readBlocks_25 : decode cX0_readBlocks 25 = .ok (.iload_n 1, 1) := by decide +kernel
theorem dX0_readBlocks_26 : decode cX0_readBlocks 26 = .ok (.iload_n 2, 1) := by decide +kernel
theorem dX0_readBlocks_27 : decode cX0_readBlocks 27 = .ok (.invokevirtual 49, 3) := by decide +kernel
theorem dX0_readBlocks_30 : decode cX0_readBlocks 30 = .ok (.istore 4, 2) := by decide +kernel
theorem dX0_readBlocks_32 : decode cX0_readBlocks 32 = .ok (.iload 4, 2) := by decide +kernel
theorem dX0_readBlocks_34 : decode cX0_readBlocks 34 = .ok (.ifCond .eq 11, 3) := by decide +kernel
theorem dX0_readBlocks_37 : decode cX0_readBlocks 37 = .ok (.aload_n 0, 1) := by decide +kernel
theorem dX0_readBlocks_38 : decode cX0_readBlocks 38 = .ok (.iload 4, 2) := by decide +kernel
theorem dX0_readBlocks_40 : decode cX0_readBlocks 40 = .ok (.iload_n 1, 1) := by decide +kernel
theorem dX0_readBlocks_41 : decode cX0_readBlocks 41 = .ok (.invokevirtual 53, 3) := by decide +kernel
theorem dX0_readBlocks_44 : decode cX0_readBlocks 44 = .ok (.ireturn, 1) := by decide +kernel
theorem dX0_readBlocks_45 : decode cX0_readBlocks 45 = .ok (.aload_n 0, 1) := by decide +kernel
theorem dX0_readBlocks_46 : decode cX0_readBlocks 46 = .ok (.getfield 15, 3) := by decide +kernel
theorem dX0_readBlocks_49 : decode cX0_readBlocks 49 = .ok (.iload_n 1, 1) := by decide +kernel
theorem dX0_readBlocks_50 : decode cX0_readBlocks 50 = .ok (.invokevirtual 57, 3) := by decide +kernel
theorem dX0_readBlocks_53 : decode cX0_readBlocks 53 = .ok (.istore_n 2, 1) := by decide +kernel
theorem dX0_readBlocks_54 : decode cX0_readBlocks 54 = .ok (.iload_n 2, 1) := by decide +kernel
theorem dX0_readBlocks_55 : decode cX0_readBlocks 55 = .ok (.ifCond .eq 9, 3) := by decide +kernel
theorem dX0_readBlocks_58 : decode cX0_readBlocks 58 = .ok (.aload_n 0, 1) := by decide +kernel
theorem dX0_readBlocks_59 : decode cX0_readBlocks 59 = .ok (.iload_n 1, 1) := by decide +kernel
theorem dX0_readBlocks_60 : decode cX0_readBlocks 60 = .ok (.iconst 1, 1) := by decide +kernel
theorem dX0_readBlocks_61 : decode cX0_readBlocks 61 = .ok (.invokevirtual 61, 3) := by decide +kernel
theorem dX0_readBlocks_64 : decode cX0_readBlocks 64 = .ok (.aload_n 0, 1) := by decide +kernel
theorem dX0_readBlocks_65 : decode cX0_readBlocks 65 = .ok (.getfield 15, 3) := by decide +kernel
theorem dX0_readBlocks_68 : decode cX0_readBlocks 68 = .ok (.iload_n 1, 1) := by decide +kernel
theorem dX0_readBlocks_69 : decode cX0_readBlocks 69 = .ok (.invokevirtual 65, 3) := by decide +kernel
theorem dX0_readBlocks_72 : decode cX0_readBlocks 72 = .ok (.istore_n 1, 1) := by decide +kernel
theorem dX0_readBlocks_73 : decode cX0_readBlocks 73 = .ok (.iinc 3 1, 3) := by decide +kernel
theorem dX0_readBlocks_76 : decode cX0_readBlocks 76 = .ok (.goto (-70), 3) := by decide +kernel
theorem dX0_readBlocks_79 : decode cX0_readBlocks 79 = .ok (.iconst 0, 1) := by decide +kernel
theorem dX0_readBlocks_80 : decode cX0_readBlocks 80 = .ok (.ireturn, 1) := by decide +kernel
theorem dX0_wrongOfBlock_0 : decode cX0_wrongOfBlock 0 = .ok (.aload_n 0, 1) := by decide +kernel
theorem dX0_wrongOfBlock_1 : decode cX0_wrongOfBlock 1 = .ok (.getfield 15, 3) := by decide +kernel
theorem dX0_wrongOfBlock_4 : decode cX0_wrongOfBlock 4 = .ok (.iload_n 1, 1) := by decide +kernel
theorem dX0_wrongOfBlock_5 : decode cX0_wrongOfBlock 5 = .ok (.invokevirtual 68, 3) := by decide +kernel
theorem dX0_wrongOfBlock_8 : decode cX0_wrongOfBlock 8 = .ok (.lstore_n 3, 1) := by decide +kernel
theorem dX0_wrongOfBlock_9 : decode cX0_wrongOfBlock 9 = .ok (.lload_n 3, 1) := by decide +kernel
theorem dX0_wrongOfBlock_10 : decode cX0_wrongOfBlock 10 = .ok (.ldc2_w 72, 3) := by decide +kernel
theorem dX0_wrongOfBlock_13 : decode cX0_wrongOfBlock 13 = .ok (.ldiv, 1) := by decide +kernel
theorem dX0_wrongOfBlock_14 : decode cX0_wrongOfBlock 14 = .ok (.lstore 5, 2) := by decide +kernel
theorem dX0_wrongOfBlock_16 : decode cX0_wrongOfBlock 16 = .ok (.lload_n 3, 1) := by decide +kernel
theorem dX0_wrongOfBlock_17 : decode cX0_wrongOfBlock 17 = .ok (.lconst 0, 1) := by decide +kernel
theorem dX0_wrongOfBlock_18 : decode cX0_wrongOfBlock 18 = .ok (.lcmp, 1) := by decide +kernel
theorem dX0_wrongOfBlock_19 : decode cX0_wrongOfBlock 19 = .ok (.ifCond .lt 30, 3) := by decide +kernel
theorem dX0_wrongOfBlock_22 : decode cX0_wrongOfBlock 22 = .ok (.lload 5, 2) := by decide +kernel
theorem dX0_wrongOfBlock_24 : decode cX0_wrongOfBlock 24 = .ok (.ldc2_w 74, 3) := by decide +kernel
theorem dX0_wrongOfBlock_27 : decode cX0_wrongOfBlock 27 = .ok (.lcmp, 1) := by decide +kernel
theorem dX0_wrongOfBlock_28 : decode cX0_wrongOfBlock 28 = .ok (.ifCond .lt 21, 3) := by decide +kernel
theorem dX0_wrongOfBlock_31 : decode cX0_wrongOfBlock 31 = .ok (.lload 5, 2) := by decide +kernel
theorem dX0_wrongOfBlock_33 : decode cX0_wrongOfBlock 33 = .ok (.aload_n 0, 1) := by decide +kernel
theorem dX0_wrongOfBlock_34 : decode cX0_wrongOfBlock 34 = .ok (.getfield 15, 3) := by decide +kernel
theorem dX0_wrongOfBlock_37 : decode cX0_wrongOfBlock 37 = .ok (.getfield 44, 3) := by decide +kernel
theorem dX0_wrongOfBlock_40 : decode cX0_wrongOfBlock 40 = .ok (.iload_n 1, 1) := by decide +kernel
theorem dX0_wrongOfBlock_41 : decode cX0_wrongOfBlock 41 = .ok (.isub, 1) := by decide +kernel
theorem dX0_wrongOfBlock_42 : decode cX0_wrongOfBlock 42 = .ok (.iconst 1, 1) := by decide +kernel
theorem dX0_wrongOfBlock_43 : decode cX0_wrongOfBlock 43 = .ok (.isub, 1) := by decide +kernel
theorem dX0_wrongOfBlock_44 : decode cX0_wrongOfBlock 44 = .ok (.i2l, 1) := by decide +kernel
theorem dX0_wrongOfBlock_45 : decode cX0_wrongOfBlock 45 = .ok (.lcmp, 1) := by decide +kernel
theorem dX0_wrongOfBlock_46 : decode cX0_wrongOfBlock 46 = .ok (.ifCond .le 5, 3) := by decide +kernel
theorem dX0_wrongOfBlock_49 : decode cX0_wrongOfBlock 49 = .ok (.iconst 1, 1) := by decide +kernel
theorem dX0_wrongOfBlock_50 : decode cX0_wrongOfBlock 50 = .ok (.ireturn, 1) := by decide +kernel
theorem dX0_wrongOfBlock_51 : decode cX0_wrongOfBlock 51 = .ok (.aload_n 0, 1) := by decide +kernel
theorem dX0_wrongOfBlock_52 : decode cX0_wrongOfBlock 52 = .ok (.getfield 15, 3) := by decide +kernel
theorem dX0_wrongOfBlock_55 : decode cX0_wrongOfBlock 55 = .ok (.iload_n 1, 1) := by decide +kernel
theorem dX0_wrongOfBlock_56 : decode cX0_wrongOfBlock 56 = .ok (.invokevirtual 76, 3) := by decide +kernel
theorem dX0_wrongOfBlock_59 : decode cX0_wrongOfBlock 59 = .ok (.iload_n 2, 1) := by decide +kernel
theorem dX0_wrongOfBlock_60 : decode cX0_wrongOfBlock 60 = .ok (.if_icmp .eq 5, 3) := by decide +kernel
theorem dX0_wrongOfBlock_63 : decode cX0_wrongOfBlock 63 = .ok (.iconst 2, 1) := by decide +kernel
theorem dX0_wrongOfBlock_64 : decode cX0_wrongOfBlock 64 = .ok (.ireturn, 1) := by decide +kernel
theorem dX0_wrongOfBlock_65 : decode cX0_wrongOfBlock 65 = .ok (.aload_n 0, 1) := by decide +kernel
theorem dX0_wrongOfBlock_66 : decode cX0_wrongOfBlock 66 = .ok (.getfield 15, 3) := by decide +kernel
theorem dX0_wrongOfBlock_69 : decode cX0_wrongOfBlock 69 = .ok (.iload_n 1, 1) := by decide +kernel
theorem dX0_wrongOfBlock_70 : decode cX0_wrongOfBlock 70 = .ok (.invokevirtual 57, 3) := by decide +kernel
theorem dX0_wrongOfBlock_73 : decode cX0_wrongOfBlock 73 = .ok (.ifCond .ne 5, 3) := by decide +kernel
theorem dX0_wrongOfBlock_76 : decode cX0_wrongOfBlock 76 = .ok (.iconst 0, 1) := by decide +kernel
theorem dX0_wrongOfBlock_77 : decode cX0_wrongOfBlock 77 = .ok (.ireturn, 1) := by decide +kernel
theorem dX0_wrongOfBlock_78 : decode cX0_wrongOfBlock 78 = .ok (.iload_n 2, 1) := by decide +kernel
theorem dX0_wrongOfBlock_79 : decode cX0_wrongOfBlock 79 = .ok (.ifCond .eq 5, 3) := by decide +kernel
theorem dX0_wrongOfBlock_82 : decode cX0_wrongOfBlock 82 = .ok (.iconst 3, 1) := by decide +kernel
theorem dX0_wrongOfBlock_83 : decode cX0_wrongOfBlock 83 = .ok (.ireturn, 1) := by decide +kernel
theorem dX0_wrongOfBlock_84 : decode cX0_wrongOfBlock 84 = .ok (.aload_n 0, 1) := by decide +kernel
theorem dX0_wrongOfBlock_85 : decode cX0_wrongOfBlock 85 = .ok (.getfield 15, 3) := by decide +kernel
theorem dX0_wrongOfBlock_88 : decode cX0_wrongOfBlock 88 = .ok (.iload_n 1, 1) := by decide +kernel
theorem dX0_wrongOfBlock_89 : decode cX0_wrongOfBlock 89 = .ok (.lload 5, 2) := by decide +kernel
theorem dX0_wrongOfBlock_91 : decode cX0_wrongOfBlock 91 = .ok (.l2i, 1) := by decide +kernel
theorem dX0_wrongOfBlock_92 : decode cX0_wrongOfBlock 92 = .ok (.iadd, 1) := by decide +kernel
theorem dX0_wrongOfBlock_93 : decode cX0_wrongOfBlock 93 = .ok (.invokevirtual 68, 3) := by decide +kernel
theorem dX0_wrongOfBlock_96 : decode cX0_wrongOfBlock 96 = .ok (.lload 5, 2) := by decide +kernel
theorem dX0_wrongOfBlock_98 : decode cX0_wrongOfBlock 98 = .ok (.lcmp, 1) := by decide +kernel
theorem dX0_wrongOfBlock_99 : decode cX0_wrongOfBlock 99 = .ok (.ifCond .eq 7, 3) := by decide +kernel
theorem dX0_wrongOfBlock_102 : decode cX0_wrongOfBlock 102 = .ok (.iconst 4, 1) := by decide +kernel
theorem dX0_wrongOfBlock_103 : decode cX0_wrongOfBlock 103 = .ok (.goto 4, 3) := by decide +kernel
theorem dX0_wrongOfBlock_106 : decode cX0_wrongOfBlock 106 = .ok (.iconst 0, 1) := by decide +kernel
theorem dX0_wrongOfBlock_107 : decode cX0_wrongOfBlock 107 = .ok (.ireturn, 1) := by decide +kernel
theorem dX0_readList_0 : decode cX0_readList 0 = .ok (.iconst 0, 1) := by decide +kernel
theorem dX0_readList_1 : decode cX0_readList 1 = .ok (.istore_n 2, 1) := by decide +kernel
theorem dX0_readList_2 : decode cX0_readList 2 = .ok (.aload_n 0, 1) := by decide +kernel
theorem dX0_readList_3 : decode cX0_readList 3 = .ok (.getfield 19, 3) := by decide +kernel
theorem dX0_readList_6 : decode cX0_readList 6 = .ok (.iload_n 1, 1) := by decide +kernel
theorem dX0_readList_7 : decode cX0_readList 7 = .ok (.invokevirtual 79, 3) := by decide +kernel
theorem dX0_readList_10 : decode cX0_readList 10 = .ok (.i2l, 1) := by decide +kernel
theorem dX0_readList_11 : decode cX0_readList 11 = .ok (.lstore_n 3, 1) := by decide +kernel
theorem dX0_readList_12 : decode cX0_readList 12 = .ok (.iconst 0, 1) := by decide +kernel
theorem dX0_readList_13 : decode cX0_readList 13 = .ok (.istore 5, 2) := by decide +kernel
theorem dX0_readList_15 : decode cX0_readList 15 = .ok (.iload 5, 2) := by decide +kernel
theorem dX0_readList_17 : decode cX0_readList 17 = .ok (.sipush 512, 3) := by decide +kernel
theorem dX0_readList_20 : decode cX0_readList 20 = .ok (.if_icmp .gt 62, 3) := by decide +kernel
theorem dX0_readList_23 : decode cX0_readList 23 = .ok (.lload_n 3, 1) := by decide +kernel
theorem dX0_readList_24 : decode cX0_readList 24 = .ok (.lconst 0, 1) := by decide +kernel
theorem dX0_readList_25 : decode cX0_readList 25 = .ok (.lcmp, 1) := by decide +kernel
theorem dX0_readList_26 : decode cX0_readList 26 = .ok (.ifCond .eq 56, 3) := by decide +kernel
theorem dX0_readList_29 : decode cX0_readList 29 = .ok (.aload_n 0, 1) := by decide +kernel
theorem dX0_readList_30 : decode cX0_readList 30 = .ok (.lload_n 3, 1) := by decide +kernel
theorem dX0_readList_31 : decode cX0_readList 31 = .ok (.iload_n 2, 1) := by decide +kernel
theorem dX0_readList_32 : decode cX0_readList 32 = .ok (.iload_n 1, 1) := by decide +kernel
theorem dX0_readList_33 : decode cX0_readList 33 = .ok (.invokevirtual 84, 3) := by decide +kernel
theorem dX0_readList_36 : decode cX0_readList 36 = .ok (.ifCond .ne 20, 3) := by decide +kernel
theorem dX0_readList_39 : decode cX0_readList 39 = .ok (.aload_n 0, 1) := by decide +kernel
theorem dX0_readList_40 : decode cX0_readList 40 = .ok (.iconst 5, 1) := by decide +kernel
theorem dX0_readList_41 : decode cX0_readList 41 = .ok (.iload_n 2, 1) := by decide +kernel
theorem dX0_readList_42 : decode cX0_readList 42 = .ok (.ifCond .ne 7, 3) := by decide +kernel
theorem dX0_readList_45 : decode cX0_readList 45 = .ok (.iconst (-1), 1) := by decide +kernel
theorem dX0_readList_46 : decode cX0_readList 46 = .ok (.goto 6, 3) := by decide +kernel
theorem dX0_readList_49 : decode cX0_readList 49 = .ok (.iload_n 2, 1) := by decide +kernel
theorem dX0_readList_50 : decode cX0_readList 50 = .ok (.iconst 1, 1) := by decide +kernel
theorem dX0_readList_51 : decode cX0_readList 51 = .ok (.isub, 1) := by decide +kernel
theorem dX0_readList_52 : decode cX0_readList 52 = .ok (.invokevirtual 53, 3) := by decide +kernel
theorem dX0_readList_55 : decode cX0_readList 55 = .ok (.ireturn, 1) := by decide +kernel
theorem dX0_readList_56 : decode cX0_readList 56 = .ok (.lload_n 3, 1) := by decide +kernel
theorem dX0_readList_57 : decode cX0_readList 57 = .ok (.l2i, 1) := by decide +kernel
theorem dX0_readList_58 : decode cX0_readList 58 = .ok (.istore_n 2, 1) := by decide +kernel
theorem dX0_readList_59 : decode cX0_readList 59 = .ok (.aload_n 0, 1) := by decide +kernel
theorem dX0_readList_60 : decode cX0_readList 60 = .ok (.iload_n 2, 1) := by decide +kernel
theorem dX0_readList_61 : decode cX0_readList 61 = .ok (.iconst 1, 1) := by decide +kernel
theorem dX0_readList_62 : decode cX0_readList 62 = .ok (.isub, 1) := by decide +kernel
theorem dX0_readList_63 : decode cX0_readList 63 = .ok (.iconst 2, 1) := by decide +kernel
theorem dX0_readList_64 : decode cX0_readList 64 = .ok (.invokevirtual 61, 3) := by decide +kernel
theorem dX0_readList_67 : decode cX0_readList 67 = .ok (.aload_n 0, 1) := by decide +kernel
theorem dX0_readList_68 : decode cX0_readList 68 = .ok (.getfield 15, 3) := by decide +kernel
theorem dX0_readList_71 : decode cX0_readList 71 = .ok (.iload_n 2, 1) := by decide +kernel
theorem dX0_readList_72 : decode cX0_readList 72 = .ok (.invokevirtual 68, 3) := by decide +kernel
theorem dX0_readList_75 : decode cX0_readList 75 = .ok (.lstore_n 3, 1) := by decide +kernel
theorem dX0_readList_76 : decode cX0_readList 76 = .ok (.iinc 5 1, 3) := by decide +kernel
theorem dX0_readList_79 : decode cX0_readList 79 = .ok (.goto (-64), 3) := by decide +kernel
theorem dX0_readList_82 : decode cX0_readList 82 = .ok (.iconst 0, 1) := by decide +kernel
theorem dX0_readList_83 : decode cX0_readList 83 = .ok (.ireturn, 1) := by decide +kernel
theorem dX0_isLinked_0 : decode cX0_isLinked 0 = .ok (.lload_n 1, 1) := by decide +kernel
theorem dX0_isLinked_1 : decode cX0_isLinked 1 = .ok (.lconst 1, 1) := by decide +kernel
theorem dX0_isLinked_2 : decode cX0_isLinked 2 = .ok (.lcmp, 1) := by decide +kernel
theorem dX0_isLinked_3 : decode cX0_isLinked 3 = .ok (.ifCond .lt 16, 3) := by decide +kernel
theorem dX0_isLinked_6 : decode cX0_isLinked 6 = .ok (.lload_n 1, 1) := by decide +kernel
theorem dX0_isLinked_7 : decode cX0_isLinked 7 = .ok (.aload_n 0, 1) := by decide +kernel
theorem dX0_isLinked_8 : decode cX0_isLinked 8 = .ok (.getfield 15, 3) := by decide +kernel
theorem dX0_isLinked_11 : decode cX0_isLinked 11 = .ok (.getfield 44, 3) := by decide +kernel
theorem dX0_isLinked_14 : decode cX0_isLinked 14 = .ok (.i2l, 1) := by decide +kernel
theorem dX0_isLinked_15 : decode cX0_isLinked 15 = .ok (.lcmp, 1) := by decide +kernel
theorem dX0_isLinked_16 : decode cX0_isLinked 16 = .ok (.ifCond .lt 5, 3) := by decide +kernel
theorem dX0_isLinked_19 : decode cX0_isLinked 19 = .ok (.iconst 0, 1) := by decide +kernel
theorem dX0_isLinked_20 : decode cX0_isLinked 20 = .ok (.ireturn, 1) := by decide +kernel
theorem dX0_isLinked_21 : decode cX0_isLinked 21 = .ok (.lload_n 1, 1) := by decide +kernel
theorem dX0_isLinked_22 : decode cX0_isLinked 22 = .ok (.l2i, 1) := by decide +kernel
theorem dX0_isLinked_23 : decode cX0_isLinked 23 = .ok (.iconst 1, 1) := by decide +kernel
theorem dX0_isLinked_24 : decode cX0_isLinked 24 = .ok (.isub, 1) := by decide +kernel
theorem dX0_isLinked_25 : decode cX0_isLinked 25 = .ok (.istore 5, 2) := by decide +kernel
theorem dX0_isLinked_27 : decode cX0_isLinked 27 = .ok (.aload_n 0, 1) := by decide +kernel
theorem dX0_isLinked_28 : decode cX0_isLinked 28 = .ok (.iload 5, 2) := by decide +kernel
theorem dX0_isLinked_30 : decode cX0_isLinked 30 = .ok (.invokevirtual 88, 3) := by decide +kernel
theorem dX0_isLinked_33 : decode cX0_isLinked 33 = .ok (.iconst 1, 1) := by decide +kernel
theorem dX0_isLinked_34 : decode cX0_isLinked 34 = .ok (.if_icmp .ne 41, 3) := by decide +kernel
theorem dX0_isLinked_37 : decode cX0_isLinked 37 = .ok (.aload_n 0, 1) := by decide +kernel
theorem dX0_isLinked_38 : decode cX0_isLinked 38 = .ok (.getfield 15, 3) := by decide +kernel
theorem dX0_isLinked_41 : decode cX0_isLinked 41 = .ok (.iload 5, 2) := by decide +kernel
theorem dX0_isLinked_43 : decode cX0_isLinked 43 = .ok (.invokevirtual 91, 3) := by decide +kernel
theorem dX0_isLinked_46 : decode cX0_isLinked 46 = .ok (.invokestatic 94, 3) := by decide +kernel
theorem dX0_isLinked_49 : decode cX0_isLinked 49 = .ok (.iload 4, 2) := by decide +kernel
theorem dX0_isLinked_51 : decode cX0_isLinked 51 = .ok (.if_icmp .ne 24, 3) := by decide +kernel
theorem dX0_isLinked_54 : decode cX0_isLinked 54 = .ok (.aload_n 0, 1) := by decide +kernel
theorem dX0_isLinked_55 : decode cX0_isLinked 55 = .ok (.getfield 15, 3) := by decide +kernel
theorem dX0_isLinked_58 : decode cX0_isLinked 58 = .ok (.iload 5, 2) := by decide +kernel
theorem dX0_isLinked_60 : decode cX0_isLinked 60 = .ok (.iconst 2, 1) := by decide +kernel
theorem dX0_isLinked_61 : decode cX0_isLinked 61 = .ok (.iadd, 1) := by decide +kernel
theorem dX0_isLinked_62 : decode cX0_isLinked 62 = .ok (.invokevirtual 68, 3) := by decide +kernel
theorem dX0_isLinked_65 : decode cX0_isLinked 65 = .ok (.iload_n 3, 1) := by decide +kernel
theorem dX0_isLinked_66 : decode cX0_isLinked 66 = .ok (.i2l, 1) := by decide +kernel
theorem dX0_isLinked_67 : decode cX0_isLinked 67 = .ok (.lcmp, 1) := by decide +kernel
theorem dX0_isLinked_68 : decode cX0_isLinked 68 = .ok (.ifCond .ne 7, 3) := by decide +kernel
theorem dX0_isLinked_71 : decode cX0_isLinked 71 = .ok (.iconst 1, 1) := by decide +kernel
theorem dX0_isLinked_72 : decode cX0_isLinked 72 = .ok (.goto 4, 3) := by decide +kernel
theorem dX0_isLinked_75 : decode cX0_isLinked 75 = .ok (.iconst 0, 1) := by decide +kernel
theorem dX0_isLinked_76 : decode cX0_isLinked 76 = .ok (.ireturn, 1) := by decide +kernel
theorem dX0_seekLost_0 : decode cX0_seekLost 0 = .ok (.iconst 0, 1) := by decide +kernel
theorem dX0_seekLost_1 : decode cX0_seekLost 1 = .ok (.istore_n 1, 1) := by decide +kernel
theorem dX0_seekLost_2 : decode cX0_seekLost 2 = .ok (.iload_n 1, 1) := by decide +kernel
theorem dX0_seekLost_3 : decode cX0_seekLost 3 = .ok (.aload_n 0, 1) := by decide +kernel
theorem dX0_seekLost_4 : decode cX0_seekLost 4 = .ok (.getfield 15, 3) := by decide +kernel
theorem dX0_seekLost_7 : decode cX0_seekLost 7 = .ok (.getfield 44, 3) := by decide +kernel
theorem dX0_seekLost_10 : decode cX0_seekLost 10 = .ok (.if_icmp .ge 26, 3) := by decide +kernel
theorem dX0_seekLost_13 : decode cX0_seekLost 13 = .ok (.aload_n 0, 1) := by decide +kernel
theorem dX0_seekLost_14 : decode cX0_seekLost 14 = .ok (.iload_n 1, 1) := by decide +kernel
theorem dX0_seekLost_15 : decode cX0_seekLost 15 = .ok (.invokevirtual 88, 3) := by decide +kernel
theorem dX0_seekLost_18 : decode cX0_seekLost 18 = .ok (.iconst 1, 1) := by decide +kernel
theorem dX0_seekLost_19 : decode cX0_seekLost 19 = .ok (.if_icmp .ne 11, 3) := by decide +kernel
theorem dX0_seekLost_22 : decode cX0_seekLost 22 = .ok (.aload_n 0, 1) := by decide +kernel
theorem dX0_seekLost_23 : decode cX0_seekLost 23 = .ok (.bipush 6, 2) := by decide +kernel
theorem dX0_seekLost_25 : decode cX0_seekLost 25 = .ok (.iload_n 1, 1) := by decide +kernel
theorem dX0_seekLost_26 : decode cX0_seekLost 26 = .ok (.invokevirtual 53, 3) := by decide +kernel
theorem dX0_seekLost_29 : decode cX0_seekLost 29 = .ok (.ireturn, 1) := by decide +kernel
theorem dX0_seekLost_30 : decode cX0_seekLost 30 = .ok (.iinc 1 1, 3) := by decide +kernel
theorem dX0_seekLost_33 : decode cX0_seekLost 33 = .ok (.goto (-31), 3) := by decide +kernel
theorem dX0_seekLost_36 : decode cX0_seekLost 36 = .ok (.iconst 0, 1) := by decide +kernel
theorem dX0_seekLost_37 : decode cX0_seekLost 37 = .ok (.ireturn, 1) := by decide +kernel
theorem dX1_ofBody_0 : decode cX1_ofBody 0 = .ok (.iload_n 0, 1) := by decide +kernel
theorem dX1_ofBody_1 : decode cX1_ofBody 1 = .ok (.bipush 8, 2) := by decide +kernel
theorem dX1_ofBody_3 : decode cX1_ofBody 3 = .ok (.if_icmp .ge 5, 3) := by decide +kernel
theorem dX1_ofBody_6 : decode cX1_ofBody 6 = .ok (.iload_n 0, 1) := by decide +kernel
theorem dX1_ofBody_7 : decode cX1_ofBody 7 = .ok (.ireturn, 1) := by decide +kernel
theorem dX1_ofBody_8 : decode cX1_ofBody 8 = .ok (.iload_n 0, 1) := by decide +kernel
theorem dX1_ofBody_9 : decode cX1_ofBody 9 = .ok (.invokestatic 9, 3) := by decide +kernel
theorem dX1_ofBody_12 : decode cX1_ofBody 12 = .ok (.istore_n 1, 1) := by decide +kernel
theorem dX1_ofBody_13 : decode cX1_ofBody 13 = .ok (.bipush 8, 2) := by decide +kernel
theorem dX1_ofBody_15 : decode cX1_ofBody 15 = .ok (.iload_n 1, 1) := by decide +kernel
theorem dX1_ofBody_16 : decode cX1_ofBody 16 = .ok (.iconst 1, 1) := by decide +kernel
theorem dX1_ofBody_17 : decode cX1_ofBody 17 = .ok (.iadd, 1) := by decide +kernel
theorem dX1_ofBody_18 : decode cX1_ofBody 18 = .ok (.imul, 1) := by decide +kernel
theorem dX1_ofBody_19 : decode cX1_ofBody 19 = .ok (.iload_n 0, 1) := by decide +kernel
theorem dX1_ofBody_20 : decode cX1_ofBody 20 = .ok (.iload_n 1, 1) := by decide +kernel
theorem dX1_ofBody_21 : decode cX1_ofBody 21 = .ok (.ishr, 1) := by decide +kernel
theorem dX1_ofBody_22 : decode cX1_ofBody 22 = .ok (.iadd, 1) := by decide +kernel
theorem dX1_ofBody_23 : decode cX1_ofBody 23 = .ok (.bipush 8, 2) := by decide +kernel
theorem dX1_ofBody_25 : decode cX1_ofBody 25 = .ok (.isub, 1) := by decide +kernel
theorem dX1_ofBody_26 : decode cX1_ofBody 26 = .ok (.ireturn, 1) := by decide +kernel
theorem dX1_ofWish_0 : decode cX1_ofWish 0 = .ok (.iload_n 0, 1) := by decide +kernel
theorem dX1_ofWish_1 : decode cX1_ofWish 1 = .ok (.invokestatic 15, 3) := by decide +kernel
theorem dX1_ofWish_4 : decode cX1_ofWish 4 = .ok (.istore_n 1, 1) := by decide +kernel
theorem dX1_ofWish_5 : decode cX1_ofWish 5 = .ok (.iload_n 1, 1) := by decide +kernel
theorem dX1_ofWish_6 : decode cX1_ofWish 6 = .ok (.bipush 8, 2) := by decide +kernel
theorem dX1_ofWish_8 : decode cX1_ofWish 8 = .ok (.if_icmp .ge 8, 3) := by decide +kernel
theorem dX1_ofWish_11 : decode cX1_ofWish 11 = .ok (.iload_n 1, 1) := by decide +kernel
theorem dX1_ofWish_12 : decode cX1_ofWish 12 = .ok (.invokestatic 18, 3) := by decide +kernel
theorem dX1_ofWish_15 : decode cX1_ofWish 15 = .ok (.ireturn, 1) := by decide +kernel
theorem dX1_ofWish_16 : decode cX1_ofWish 16 = .ok (.iload_n 1, 1) := by decide +kernel
theorem dX1_ofWish_17 : decode cX1_ofWish 17 = .ok (.iconst 1, 1) := by decide +kernel
theorem dX1_ofWish_18 : decode cX1_ofWish 18 = .ok (.iload_n 1, 1) := by decide +kernel
theorem dX1_ofWish_19 : decode cX1_ofWish 19 = .ok (.invokestatic 9, 3) := by decide +kernel
theorem dX1_ofWish_22 : decode cX1_ofWish 22 = .ok (.ishl, 1) := by decide +kernel
theorem dX1_ofWish_23 : decode cX1_ofWish 23 = .ok (.iadd, 1) := by decide +kernel
theorem dX1_ofWish_24 : decode cX1_ofWish 24 = .ok (.iconst 1, 1) := by decide +kernel
theorem dX1_ofWish_25 : decode cX1_ofWish 25 = .ok (.isub, 1) := by decide +kernel
theorem dX1_ofWish_26 : decode cX1_ofWish 26 = .ok (.invokestatic 18, 3) := by decide +kernel
theorem dX1_ofWish_29 : decode cX1_ofWish 29 = .ok (.ireturn, 1) := by decide +kernel
theorem dX1_stepShift_0 : decode cX1_stepShift 0 = .ok (.bipush 28, 2) := by decide +kernel
theorem dX1_stepShift_2 : decode cX1_stepShift 2 = .ok (.iload_n 0, 1) := by decide +kernel
theorem dX1_stepShift_3 : decode cX1_stepShift 3 = .ok (.invokestatic 21, 3) := by decide +kernel
theorem dX1_stepShift_6 : decode cX1_stepShift 6 = .ok (.isub, 1) := by decide +kernel
theorem dX1_stepShift_7 : decode cX1_stepShift 7 = .ok (.ireturn, 1) := by decide +kernel
theorem dX2_init_0 : decode cX2_init 0 = .ok (.aload_n 0, 1) := by decide +kernel
theorem dX2_init_1 : decode cX2_init 1 = .ok (.invokespecial 3, 3) := by decide +kernel
theorem dX2_init_4 : decode cX2_init 4 = .ok (.aload_n 0, 1) := by decide +kernel
theorem dX2_init_5 : decode cX2_init 5 = .ok (.bipush 72, 2) := by decide +kernel
theorem dX2_init_7 : decode cX2_init 7 = .ok (.newarray .int, 2) := by decide +kernel
theorem dX2_init_9 : decode cX2_init 9 = .ok (.putfield 9, 3) := by decide +kernel
theorem dX2_init_12 : decode cX2_init 12 = .ok (.aload_n 0, 1) := by decide +kernel
theorem dX2_init_13 : decode cX2_init 13 = .ok (.aload_n 1, 1) := by decide +kernel
theorem dX2_init_14 : decode cX2_init 14 = .ok (.putfield 15, 3) := by decide +kernel
theorem dX2_init_17 : decode cX2_init 17 = .ok (.return_, 1) := by decide +kernel
theorem dX2_clear_0 : decode cX2_clear 0 = .ok (.aload_n 0, 1) := by decide +kernel
theorem dX2_clear_1 : decode cX2_clear 1 = .ok (.getfield 9, 3) := by decide +kernel
theorem dX2_clear_4 : decode cX2_clear 4 = .ok (.iconst 0, 1) := by decide +kernel
theorem dX2_clear_5 : decode cX2_clear 5 = .ok (.invokestatic 19, 3) := by decide +kernel
theorem dX2_clear_8 : decode cX2_clear 8 = .ok (.return_, 1) := by decide +kernel
theorem dX2_forgetMoves_0 : decode cX2_forgetMoves 0 = .ok (.aload_n 0, 1) := by decide +kernel
theorem dX2_forgetMoves_1 : decode cX2_forgetMoves 1 = .ok (.iconst 0, 1) := by decide +kernel
theorem dX2_forgetMoves_2 : decode cX2_forgetMoves 2 = .ok (.putfield 25, 3) := by decide +kernel
theorem dX2_forgetMoves_5 : decode cX2_forgetMoves 5 = .ok (.return_, 1) := by decide +kernel
theorem dX2_firstOf_0 : decode cX2_firstOf 0 = .ok (.iload_n 1, 1) := by decide +kernel
theorem dX2_firstOf_1 : decode cX2_firstOf 1 = .ok (.ifCond .lt 18, 3) := by decide +kernel
theorem dX2_firstOf_4 : decode cX2_firstOf 4 = .ok (.iload_n 1, 1) := by decide +kernel
theorem dX2_firstOf_5 : decode cX2_firstOf 5 = .ok (.bipush 72, 2) := by decide +kernel
theorem dX2_firstOf_7 : decode cX2_firstOf 7 = .ok (.if_icmp .ge 12, 3) := by decide +kernel
theorem dX2_firstOf_10 : decode cX2_firstOf 10 = .ok (.aload_n 0, 1) := by decide +kernel
theorem dX2_firstOf_11 : decode cX2_firstOf 11 = .ok (.getfield 9, 3) := by decide +kernel
theorem dX2_firstOf_14 : decode cX2_firstOf 14 = .ok (.iload_n 1, 1) := by decide +kernel
theorem dX2_firstOf_15 : decode cX2_firstOf 15 = .ok (.iaload, 1) := by decide +kernel
theorem dX2_firstOf_16 : decode cX2_firstOf 16 = .ok (.goto 4, 3) := by decide +kernel
theorem dX2_firstOf_19 : decode cX2_firstOf 19 = .ok (.iconst 0, 1) := by decide +kernel
theorem dX2_firstOf_20 : decode cX2_firstOf 20 = .ok (.ireturn, 1) := by decide +kernel
theorem dX2_layFirst_0 : decode cX2_layFirst 0 = .ok (.iload_n 1, 1) := by decide +kernel
theorem dX2_layFirst_1 : decode cX2_layFirst 1 = .ok (.ifCond .lt 16, 3) := by decide +kernel
theorem dX2_layFirst_4 : decode cX2_layFirst 4 = .ok (.iload_n 1, 1) := by decide +kernel
theorem dX2_layFirst_5 : decode cX2_layFirst 5 = .ok (.bipush 72, 2) := by decide +kernel
theorem dX2_layFirst_7 : decode cX2_layFirst 7 = .ok (.if_icmp .ge 10, 3) := by decide +kernel
theorem dX2_layFirst_10 : decode cX2_layFirst 10 = .ok (.aload_n 0, 1) := by decide +kernel
theorem dX2_layFirst_11 : decode cX2_layFirst 11 = .ok (.getfield 9, 3) := by decide +kernel
theorem dX2_layFirst_14 : decode cX2_layFirst 14 = .ok (.iload_n 1, 1) := by decide +kernel
theorem dX2_layFirst_15 : decode cX2_layFirst 15 = .ok (.iload_n 2, 1) := by decide +kernel
theorem dX2_layFirst_16 : decode cX2_layFirst 16 = .ok (.iastore, 1) := by decide +kernel
theorem dX2_layFirst_17 : decode cX2_layFirst 17 = .ok (.return_, 1) := by decide +kernel
theorem dX2_come_0 : decode cX2_come 0 = .ok (.aload_n 0, 1) := by decide +kernel
theorem dX2_come_1 : decode cX2_come 1 = .ok (.getfield 15, 3) := by decide +kernel
theorem dX2_come_4 : decode cX2_come 4 = .ok (.iload_n 1, 1) := by decide +kernel
theorem dX2_come_5 : decode cX2_come 5 = .ok (.invokevirtual 29, 3) := by decide +kernel
theorem dX2_come_8 : decode cX2_come 8 = .ok (.invokestatic 35, 3) := by decide +kernel
theorem dX2_come_11 : decode cX2_come 11 = .ok (.istore_n 2, 1) := by decide +kernel
theorem dX2_come_12 : decode cX2_come 12 = .ok (.iload_n 1, 1) := by decide +kernel
theorem dX2_come_13 : decode cX2_come 13 = .ok (.iconst 1, 1) := by decide +kernel
theorem dX2_come_14 : decode cX2_come 14 = .ok (.iadd, 1) := by decide +kernel
theorem dX2_come_15 : decode cX2_come 15 = .ok (.istore_n 3, 1) := by decide +kernel
theorem dX2_come_16 : decode cX2_come 16 = .ok (.aload_n 0, 1) := by decide +kernel
theorem dX2_come_17 : decode cX2_come 17 = .ok (.iload_n 2, 1) := by decide +kernel
theorem dX2_come_18 : decode cX2_come 18 = .ok (.invokevirtual 40, 3) := by decide +kernel
theorem dX2_come_21 : decode cX2_come 21 = .ok (.istore 4, 2) := by decide +kernel
theorem dX2_come_23 : decode cX2_come 23 = .ok (.aload_n 0, 1) := by decide +kernel
theorem dX2_come_24 : decode cX2_come 24 = .ok (.getfield 15, 3) := by decide +kernel
theorem dX2_come_27 : decode cX2_come 27 = .ok (.iload_n 3, 1) := by decide +kernel
theorem dX2_come_28 : decode cX2_come 28 = .ok (.iload 4, 2) := by decide +kernel
theorem dX2_come_30 : decode cX2_come 30 = .ok (.i2l, 1) := by decide +kernel
theorem dX2_come_31 : decode cX2_come 31 = .ok (.invokevirtual 43, 3) := by decide +kernel
theorem dX2_come_34 : decode cX2_come 34 = .ok (.aload_n 0, 1) := by decide +kernel
theorem dX2_come_35 : decode cX2_come 35 = .ok (.getfield 15, 3) := by decide +kernel
theorem dX2_come_38 : decode cX2_come 38 = .ok (.iload_n 3, 1) := by decide +kernel
theorem dX2_come_39 : decode cX2_come 39 = .ok (.iconst 1, 1) := by decide +kernel
theorem dX2_come_40 : decode cX2_come 40 = .ok (.iadd, 1) := by decide +kernel
theorem dX2_come_41 : decode cX2_come 41 = .ok (.lconst 0, 1) := by decide +kernel
theorem dX2_come_42 : decode cX2_come 42 = .ok (.invokevirtual 43, 3) := by decide +kernel
theorem dX2_come_45 : decode cX2_come 45 = .ok (.iload 4, 2) := by decide +kernel
theorem dX2_come_47 : decode cX2_come 47 = .ok (.ifCond .eq 16, 3) := by decide +kernel
theorem dX2_come_50 : decode cX2_come 50 = .ok (.aload_n 0, 1) := by decide +kernel
theorem dX2_come_51 : decode cX2_come 51 = .ok (.getfield 15, 3) := by decide +kernel
theorem dX2_come_54 : decode cX2_come 54 = .ok (.iload 4, 2) := by decide +kernel
theorem dX2_come_56 : decode cX2_come 56 = .ok (.iconst 1, 1) := by decide +kernel
theorem dX2_come_57 : decode cX2_come 57 = .ok (.iadd, 1) := by decide +kernel
theorem dX2_come_58 : decode cX2_come 58 = .ok (.iload_n 3, 1) := by decide +kernel
theorem dX2_come_59 : decode cX2_come 59 = .ok (.i2l, 1) := by decide +kernel
theorem dX2_come_60 : decode cX2_come 60 = .ok (.invokevirtual 43, 3) := by decide +kernel
theorem dX2_come_63 : decode cX2_come 63 = .ok (.aload_n 0, 1) := by decide +kernel
theorem dX2_come_64 : decode cX2_come 64 = .ok (.iload_n 2, 1) := by decide +kernel
theorem dX2_come_65 : decode cX2_come 65 = .ok (.iload_n 3, 1) := by decide +kernel
theorem dX2_come_66 : decode cX2_come 66 = .ok (.invokevirtual 47, 3) := by decide +kernel
theorem dX2_come_69 : decode cX2_come 69 = .ok (.aload_n 0, 1) := by decide +kernel
theorem dX2_come_70 : decode cX2_come 70 = .ok (.dup, 1) := by decide +kernel
theorem dX2_come_71 : decode cX2_come 71 = .ok (.getfield 25, 3) := by decide +kernel
theorem dX2_come_74 : decode cX2_come 74 = .ok (.iconst 1, 1) := by decide +kernel
theorem dX2_come_75 : decode cX2_come 75 = .ok (.iadd, 1) := by decide +kernel
theorem dX2_come_76 : decode cX2_come 76 = .ok (.putfield 25, 3) := by decide +kernel
theorem dX2_come_79 : decode cX2_come 79 = .ok (.return_, 1) := by decide +kernel
theorem dX2_leave_0 : decode cX2_leave 0 = .ok (.iload_n 1, 1) := by decide +kernel
theorem dX2_leave_1 : decode cX2_leave 1 = .ok (.iconst 1, 1) := by decide +kernel
theorem dX2_leave_2 : decode cX2_leave 2 = .ok (.iadd, 1) := by decide +kernel
theorem dX2_leave_3 : decode cX2_leave 3 = .ok (.istore_n 2, 1) := by decide +kernel
theorem dX2_leave_4 : decode cX2_leave 4 = .ok (.aload_n 0, 1) := by decide +kernel
theorem dX2_leave_5 : decode cX2_leave 5 = .ok (.getfield 15, 3) := by decide +kernel
theorem dX2_leave_8 : decode cX2_leave 8 = .ok (.iload_n 2, 1) := by decide +kernel
theorem dX2_leave_9 : decode cX2_leave 9 = .ok (.invokevirtual 51, 3) := by decide +kernel
theorem dX2_leave_12 : decode cX2_leave 12 = .ok (.l2i, 1) := by decide +kernel
theorem dX2_leave_13 : decode cX2_leave 13 = .ok (.istore_n 3, 1) := by decide +kernel
theorem dX2_leave_14 : decode cX2_leave 14 = .ok (.aload_n 0, 1) := by decide +kernel
theorem dX2_leave_15 : decode cX2_leave 15 = .ok (.getfield 15, 3) := by decide +kernel
theorem dX2_leave_18 : decode cX2_leave 18 = .ok (.iload_n 2, 1) := by decide +kernel
theorem dX2_leave_19 : decode cX2_leave 19 = .ok (.iconst 1, 1) := by decide +kernel
theorem dX2_leave_20 : decode cX2_leave 20 = .ok (.iadd, 1) := by decide +kernel
theorem dX2_leave_21 : decode cX2_leave 21 = .ok (.invokevirtual 51, 3) := by decide +kernel
theorem dX2_leave_24 : decode cX2_leave 24 = .ok (.l2i, 1) := by decide +kernel
theorem dX2_leave_25 : decode cX2_leave 25 = .ok (.istore 4, 2) := by decide +kernel
theorem dX2_leave_27 : decode cX2_leave 27 = .ok (.iload_n 3, 1) := by decide +kernel
theorem dX2_leave_28 : decode cX2_leave 28 = .ok (.ifCond .eq 16, 3) := by decide +kernel
theorem dX2_leave_31 : decode cX2_leave 31 = .ok (.aload_n 0, 1) := by decide +kernel
theorem dX2_leave_32 : decode cX2_leave 32 = .ok (.getfield 15, 3) := by decide +kernel
theorem dX2_leave_35 : decode cX2_leave 35 = .ok (.iload_n 3, 1) := by decide +kernel
theorem dX2_leave_36 : decode cX2_leave 36 = .ok (.iconst 1, 1) := by decide +kernel
theorem dX2_leave_37 : decode cX2_leave 37 = .ok (.iadd, 1) := by decide +kernel
theorem dX2_leave_38 : decode cX2_leave 38 = .ok (.iload 4, 2) := by decide +kernel
theorem dX2_leave_40 : decode cX2_leave 40 = .ok (.i2l, 1) := by decide +kernel
theorem dX2_leave_41 : decode cX2_leave 41 = .ok (.invokevirtual 43, 3) := by decide +kernel
theorem dX2_leave_44 : decode cX2_leave 44 = .ok (.iload 4, 2) := by decide +kernel
theorem dX2_leave_46 : decode cX2_leave 46 = .ok (.ifCond .eq 17, 3) := by decide +kernel
theorem dX2_leave_49 : decode cX2_leave 49 = .ok (.aload_n 0, 1) := by decide +kernel
theorem dX2_leave_50 : decode cX2_leave 50 = .ok (.getfield 15, 3) := by decide +kernel
theorem dX2_leave_53 : decode cX2_leave 53 = .ok (.iload 4, 2) := by decide +kernel
theorem dX2_leave_55 : decode cX2_leave 55 = .ok (.iload_n 3, 1) := by decide +kernel
theorem dX2_leave_56 : decode cX2_leave 56 = .ok (.i2l, 1) := by decide +kernel
theorem dX2_leave_57 : decode cX2_leave 57 = .ok (.invokevirtual 43, 3) := by decide +kernel
theorem dX2_leave_60 : decode cX2_leave 60 = .ok (.goto 19, 3) := by decide +kernel
theorem dX2_leave_63 : decode cX2_leave 63 = .ok (.aload_n 0, 1) := by decide +kernel
theorem dX2_leave_64 : decode cX2_leave 64 = .ok (.aload_n 0, 1) := by decide +kernel
theorem dX2_leave_65 : decode cX2_leave 65 = .ok (.getfield 15, 3) := by decide +kernel
theorem dX2_leave_68 : decode cX2_leave 68 = .ok (.iload_n 1, 1) := by decide +kernel
theorem dX2_leave_69 : decode cX2_leave 69 = .ok (.invokevirtual 29, 3) := by decide +kernel
theorem dX2_leave_72 : decode cX2_leave 72 = .ok (.invokestatic 35, 3) := by decide +kernel
theorem dX2_leave_75 : decode cX2_leave 75 = .ok (.iload_n 3, 1) := by decide +kernel
theorem dX2_leave_76 : decode cX2_leave 76 = .ok (.invokevirtual 47, 3) := by decide +kernel
theorem dX2_leave_79 : decode cX2_leave 79 = .ok (.aload_n 0, 1) := by decide +kernel
theorem dX2_leave_80 : decode cX2_leave 80 = .ok (.dup, 1) := by decide +kernel
theorem dX2_leave_81 : decode cX2_leave 81 = .ok (.getfield 25, 3) := by decide +kernel
theorem dX2_leave_84 : decode cX2_leave 84 = .ok (.iconst 1, 1) := by decide +kernel
theorem dX2_leave_85 : decode cX2_leave 85 = .ok (.iadd, 1) := by decide +kernel
theorem dX2_leave_86 : decode cX2_leave 86 = .ok (.putfield 25, 3) := by decide +kernel
theorem dX2_leave_89 : decode cX2_leave 89 = .ok (.return_, 1) := by decide +kernel
theorem dX2_headerFor_0 : decode cX2_headerFor 0 = .ok (.iload_n 1, 1) := by decide +kernel
theorem dX2_headerFor_1 : decode cX2_headerFor 1 = .ok (.invokestatic 55, 3) := by decide +kernel
theorem dX2_headerFor_4 : decode cX2_headerFor 4 = .ok (.istore_n 2, 1) := by decide +kernel
theorem dX2_headerFor_5 : decode cX2_headerFor 5 = .ok (.iload_n 2, 1) := by decide +kernel
theorem dX2_headerFor_6 : decode cX2_headerFor 6 = .ok (.bipush 72, 2) := by decide +kernel
theorem dX2_headerFor_8 : decode cX2_headerFor 8 = .ok (.if_icmp .ge 25, 3) := by decide +kernel
theorem dX2_headerFor_11 : decode cX2_headerFor 11 = .ok (.aload_n 0, 1) := by decide +kernel
theorem dX2_headerFor_12 : decode cX2_headerFor 12 = .ok (.iload_n 2, 1) := by decide +kernel
theorem dX2_headerFor_13 : decode cX2_headerFor 13 = .ok (.invokevirtual 40, 3) := by decide +kernel
theorem dX2_headerFor_16 : decode cX2_headerFor 16 = .ok (.ifCond .eq 11, 3) := by decide +kernel
theorem dX2_headerFor_19 : decode cX2_headerFor 19 = .ok (.aload_n 0, 1) := by decide +kernel
theorem dX2_headerFor_20 : decode cX2_headerFor 20 = .ok (.iload_n 2, 1) := by decide +kernel
theorem dX2_headerFor_21 : decode cX2_headerFor 21 = .ok (.invokevirtual 40, 3) := by decide +kernel
theorem dX2_headerFor_24 : decode cX2_headerFor 24 = .ok (.iconst 1, 1) := by decide +kernel
theorem dX2_headerFor_25 : decode cX2_headerFor 25 = .ok (.isub, 1) := by decide +kernel
theorem dX2_headerFor_26 : decode cX2_headerFor 26 = .ok (.ireturn, 1) := by decide +kernel
theorem dX2_headerFor_27 : decode cX2_headerFor 27 = .ok (.iinc 2 1, 3) := by decide +kernel
theorem dX2_headerFor_30 : decode cX2_headerFor 30 = .ok (.goto (-25), 3) := by decide +kernel
theorem dX2_headerFor_33 : decode cX2_headerFor 33 = .ok (.iconst (-1), 1) := by decide +kernel
theorem dX2_headerFor_34 : decode cX2_headerFor 34 = .ok (.ireturn, 1) := by decide +kernel
theorem dX2_placeInList_0 : decode cX2_placeInList 0 = .ok (.aload_n 0, 1) := by decide +kernel
theorem dX2_placeInList_1 : decode cX2_placeInList 1 = .ok (.iload_n 1, 1) := by decide +kernel
theorem dX2_placeInList_2 : decode cX2_placeInList 2 = .ok (.invokevirtual 40, 3) := by decide +kernel
theorem dX2_placeInList_5 : decode cX2_placeInList 5 = .ok (.istore_n 3, 1) := by decide +kernel
theorem dX2_placeInList_6 : decode cX2_placeInList 6 = .ok (.iconst 0, 1) := by decide +kernel
theorem dX2_placeInList_7 : decode cX2_placeInList 7 = .ok (.istore 4, 2) := by decide +kernel
theorem dX2_placeInList_9 : decode cX2_placeInList 9 = .ok (.iload 4, 2) := by decide +kernel
theorem dX2_placeInList_11 : decode cX2_placeInList 11 = .ok (.sipush 512, 3) := by decide +kernel
theorem dX2_placeInList_14 : decode cX2_placeInList 14 = .ok (.if_icmp .ge 29, 3) := by decide +kernel
theorem dX2_placeInList_17 : decode cX2_placeInList 17 = .ok (.iload 4, 2) := by decide +kernel
theorem dX2_placeInList_19 : decode cX2_placeInList 19 = .ok (.iload_n 2, 1) := by decide +kernel
theorem dX2_placeInList_20 : decode cX2_placeInList 20 = .ok (.if_icmp .ge 23, 3) := by decide +kernel
theorem dX2_placeInList_23 : decode cX2_placeInList 23 = .ok (.iload_n 3, 1) := by decide +kernel
theorem dX2_placeInList_24 : decode cX2_placeInList 24 = .ok (.ifCond .eq 19, 3) := by decide +kernel
theorem dX2_placeInList_27 : decode cX2_placeInList 27 = .ok (.aload_n 0, 1) := by decide +kernel
theorem dX2_placeInList_28 : decode cX2_placeInList 28 = .ok (.getfield 15, 3) := by decide +kernel
theorem dX2_placeInList_31 : decode cX2_placeInList 31 = .ok (.iload_n 3, 1) := by decide +kernel
theorem dX2_placeInList_32 : decode cX2_placeInList 32 = .ok (.invokevirtual 51, 3) := by decide +kernel
theorem dX2_placeInList_35 : decode cX2_placeInList 35 = .ok (.l2i, 1) := by decide +kernel
theorem dX2_placeInList_36 : decode cX2_placeInList 36 = .ok (.istore_n 3, 1) := by decide +kernel
theorem dX2_placeInList_37 : decode cX2_placeInList 37 = .ok (.iinc 4 1, 3) := by decide +kernel
theorem dX2_placeInList_40 : decode cX2_placeInList 40 = .ok (.goto (-31), 3) := by decide +kernel
theorem dX2_placeInList_43 : decode cX2_placeInList 43 = .ok (.iload_n 2, 1) := by decide +kernel
theorem dX2_placeInList_44 : decode cX2_placeInList 44 = .ok (.sipush 512, 3) := by decide +kernel
theorem dX2_placeInList_47 : decode cX2_placeInList 47 = .ok (.if_icmp .ge 11, 3) := by decide +kernel
theorem dX2_placeInList_50 : decode cX2_placeInList 50 = .ok (.iload_n 3, 1) := by decide +kernel
theorem dX2_placeInList_51 : decode cX2_placeInList 51 = .ok (.ifCond .eq 7, 3) := by decide +kernel
theorem dX2_placeInList_54 : decode cX2_placeInList 54 = .ok (.iload_n 3, 1) := by decide +kernel
theorem dX2_placeInList_55 : decode cX2_placeInList 55 = .ok (.goto 4, 3) := by decide +kernel
theorem dX2_placeInList_58 : decode cX2_placeInList 58 = .ok (.iconst (-1), 1) := by decide +kernel
theorem dX2_placeInList_59 : decode cX2_placeInList 59 = .ok (.ireturn, 1) := by decide +kernel
theorem dX2_stepBits_0 : decode cX2_stepBits 0 = .ok (.iconst 0, 1) := by decide +kernel
theorem dX2_stepBits_1 : decode cX2_stepBits 1 = .ok (.istore_n 2, 1) := by decide +kernel
theorem dX2_stepBits_2 : decode cX2_stepBits 2 = .ok (.iconst 0, 1) := by decide +kernel
theorem dX2_stepBits_3 : decode cX2_stepBits 3 = .ok (.istore_n 3, 1) := by decide +kernel
theorem dX2_stepBits_4 : decode cX2_stepBits 4 = .ok (.iload_n 3, 1) := by decide +kernel
theorem dX2_stepBits_5 : decode cX2_stepBits 5 = .ok (.bipush 8, 2) := by decide +kernel
theorem dX2_stepBits_7 : decode cX2_stepBits 7 = .ok (.if_icmp .ge 28, 3) := by decide +kernel
theorem dX2_stepBits_10 : decode cX2_stepBits 10 = .ok (.aload_n 0, 1) := by decide +kernel
theorem dX2_stepBits_11 : decode cX2_stepBits 11 = .ok (.bipush 8, 2) := by decide +kernel
theorem dX2_stepBits_13 : decode cX2_stepBits 13 = .ok (.iload_n 1, 1) := by decide +kernel
theorem dX2_stepBits_14 : decode cX2_stepBits 14 = .ok (.imul, 1) := by decide +kernel
theorem dX2_stepBits_15 : decode cX2_stepBits 15 = .ok (.iload_n 3, 1) := by decide +kernel
theorem dX2_stepBits_16 : decode cX2_stepBits 16 = .ok (.iadd, 1) := by decide +kernel
theorem dX2_stepBits_17 : decode cX2_stepBits 17 = .ok (.invokevirtual 40, 3) := by decide +kernel
theorem dX2_stepBits_20 : decode cX2_stepBits 20 = .ok (.ifCond .eq 9, 3) := by decide +kernel
theorem dX2_stepBits_23 : decode cX2_stepBits 23 = .ok (.iload_n 2, 1) := by decide +kernel
theorem dX2_stepBits_24 : decode cX2_stepBits 24 = .ok (.iconst 1, 1) := by decide +kernel
theorem dX2_stepBits_25 : decode cX2_stepBits 25 = .ok (.iload_n 3, 1) := by decide +kernel
theorem dX2_stepBits_26 : decode cX2_stepBits 26 = .ok (.ishl, 1) := by decide +kernel
theorem dX2_stepBits_27 : decode cX2_stepBits 27 = .ok (.ior, 1) := by decide +kernel
theorem dX2_stepBits_28 : decode cX2_stepBits 28 = .ok (.istore_n 2, 1) := by decide +kernel
theorem dX2_stepBits_29 : decode cX2_stepBits 29 = .ok (.iinc 3 1, 3) := by decide +kernel
theorem dX2_stepBits_32 : decode cX2_stepBits 32 = .ok (.goto (-28), 3) := by decide +kernel
theorem dX2_stepBits_35 : decode cX2_stepBits 35 = .ok (.iload_n 2, 1) := by decide +kernel
theorem dX2_stepBits_36 : decode cX2_stepBits 36 = .ok (.ireturn, 1) := by decide +kernel
theorem dX2_levelBits_0 : decode cX2_levelBits 0 = .ok (.iconst 0, 1) := by decide +kernel
theorem dX2_levelBits_1 : decode cX2_levelBits 1 = .ok (.istore_n 1, 1) := by decide +kernel
theorem dX2_levelBits_2 : decode cX2_levelBits 2 = .ok (.iconst 0, 1) := by decide +kernel
theorem dX2_levelBits_3 : decode cX2_levelBits 3 = .ok (.istore_n 2, 1) := by decide +kernel
theorem dX2_levelBits_4 : decode cX2_levelBits 4 = .ok (.iload_n 2, 1) := by decide +kernel
theorem dX2_levelBits_5 : decode cX2_levelBits 5 = .ok (.bipush 9, 2) := by decide +kernel
theorem dX2_levelBits_7 : decode cX2_levelBits 7 = .ok (.if_icmp .ge 23, 3) := by decide +kernel
theorem dX2_levelBits_10 : decode cX2_levelBits 10 = .ok (.aload_n 0, 1) := by decide +kernel
theorem dX2_levelBits_11 : decode cX2_levelBits 11 = .ok (.iload_n 2, 1) := by decide +kernel
theorem dX2_levelBits_12 : decode cX2_levelBits 12 = .ok (.invokevirtual 58, 3) := by decide +kernel
theorem dX2_levelBits_15 : decode cX2_levelBits 15 = .ok (.ifCond .eq 9, 3) := by decide +kernel
theorem dX2_levelBits_18 : decode cX2_levelBits 18 = .ok (.iload_n 1, 1) := by decide +kernel
theorem dX2_levelBits_19 : decode cX2_levelBits 19 = .ok (.iconst 1, 1) := by decide +kernel
theorem dX2_levelBits_20 : decode cX2_levelBits 20 = .ok (.iload_n 2, 1) := by decide +kernel
theorem dX2_levelBits_21 : decode cX2_levelBits 21 = .ok (.ishl, 1) := by decide +kernel
theorem dX2_levelBits_22 : decode cX2_levelBits 22 = .ok (.ior, 1) := by decide +kernel
theorem dX2_levelBits_23 : decode cX2_levelBits 23 = .ok (.istore_n 1, 1) := by decide +kernel
theorem dX2_levelBits_24 : decode cX2_levelBits 24 = .ok (.iinc 2 1, 3) := by decide +kernel
theorem dX2_levelBits_27 : decode cX2_levelBits 27 = .ok (.goto (-23), 3) := by decide +kernel
theorem dX2_levelBits_30 : decode cX2_levelBits 30 = .ok (.iload_n 1, 1) := by decide +kernel
theorem dX2_levelBits_31 : decode cX2_levelBits 31 = .ok (.ireturn, 1) := by decide +kernel
theorem dX3_init_0 : decode cX3_init 0 = .ok (.aload_n 0, 1) := by decide +kernel
theorem dX3_init_1 : decode cX3_init 1 = .ok (.invokespecial 3, 3) := by decide +kernel
theorem dX3_init_4 : decode cX3_init 4 = .ok (.aload_n 0, 1) := by decide +kernel
theorem dX3_init_5 : decode cX3_init 5 = .ok (.sipush 2048, 3) := by decide +kernel
theorem dX3_init_8 : decode cX3_init 8 = .ok (.newarray .long, 2) := by decide +kernel
theorem dX3_init_10 : decode cX3_init 10 = .ok (.putfield 9, 3) := by decide +kernel
theorem dX3_init_13 : decode cX3_init 13 = .ok (.return_, 1) := by decide +kernel
theorem dX3_clear_0 : decode cX3_clear 0 = .ok (.aload_n 0, 1) := by decide +kernel
theorem dX3_clear_1 : decode cX3_clear 1 = .ok (.getfield 9, 3) := by decide +kernel
theorem dX3_clear_4 : decode cX3_clear 4 = .ok (.lconst 0, 1) := by decide +kernel
theorem dX3_clear_5 : decode cX3_clear 5 = .ok (.invokestatic 15, 3) := by decide +kernel
theorem dX3_clear_8 : decode cX3_clear 8 = .ok (.aload_n 0, 1) := by decide +kernel
theorem dX3_clear_9 : decode cX3_clear 9 = .ok (.iload_n 1, 1) := by decide +kernel
theorem dX3_clear_10 : decode cX3_clear 10 = .ok (.putfield 21, 3) := by decide +kernel
theorem dX3_clear_13 : decode cX3_clear 13 = .ok (.return_, 1) := by decide +kernel
theorem dX3_has_0 : decode cX3_has 0 = .ok (.iload_n 1, 1) := by decide +kernel
theorem dX3_has_1 : decode cX3_has 1 = .ok (.ifCond .lt 15, 3) := by decide +kernel
theorem dX3_has_4 : decode cX3_has 4 = .ok (.iload_n 1, 1) := by decide +kernel
theorem dX3_has_5 : decode cX3_has 5 = .ok (.aload_n 0, 1) := by decide +kernel
theorem dX3_has_6 : decode cX3_has 6 = .ok (.getfield 21, 3) := by decide +kernel
theorem dX3_has_9 : decode cX3_has 9 = .ok (.if_icmp .ge 7, 3) := by decide +kernel
theorem dX3_has_12 : decode cX3_has 12 = .ok (.iconst 1, 1) := by decide +kernel
theorem dX3_has_13 : decode cX3_has 13 = .ok (.goto 4, 3) := by decide +kernel
theorem dX3_has_16 : decode cX3_has 16 = .ok (.iconst 0, 1) := by decide +kernel
theorem dX3_has_17 : decode cX3_has 17 = .ok (.ireturn, 1) := by decide +kernel
theorem dX3_at_0 : decode cX3_at 0 = .ok (.iload_n 1, 1) := by decide +kernel
theorem dX3_at_1 : decode cX3_at 1 = .ok (.ifCond .lt 20, 3) := by decide +kernel
theorem dX3_at_4 : decode cX3_at 4 = .ok (.iload_n 1, 1) := by decide +kernel
theorem dX3_at_5 : decode cX3_at 5 = .ok (.aload_n 0, 1) := by decide +kernel
theorem dX3_at_6 : decode cX3_at 6 = .ok (.getfield 21, 3) := by decide +kernel
theorem dX3_at_9 : decode cX3_at 9 = .ok (.if_icmp .ge 12, 3) := by decide +kernel
theorem dX3_at_12 : decode cX3_at 12 = .ok (.aload_n 0, 1) := by decide +kernel
theorem dX3_at_13 : decode cX3_at 13 = .ok (.getfield 9, 3) := by decide +kernel
theorem dX3_at_16 : decode cX3_at 16 = .ok (.iload_n 1, 1) := by decide +kernel
theorem dX3_at_17 : decode cX3_at 17 = .ok (.laload, 1) := by decide +kernel
theorem dX3_at_18 : decode cX3_at 18 = .ok (.goto 4, 3) := by decide +kernel
theorem dX3_at_21 : decode cX3_at 21 = .ok (.lconst 0, 1) := by decide +kernel
theorem dX3_at_22 : decode cX3_at 22 = .ok (.lreturn, 1) := by decide +kernel
theorem dX3_lay_0 : decode cX3_lay 0 = .ok (.iload_n 1, 1) := by decide +kernel
theorem dX3_lay_1 : decode cX3_lay 1 = .ok (.ifCond .lt 18, 3) := by decide +kernel
theorem dX3_lay_4 : decode cX3_lay 4 = .ok (.iload_n 1, 1) := by decide +kernel
theorem dX3_lay_5 : decode cX3_lay 5 = .ok (.aload_n 0, 1) := by decide +kernel
theorem dX3_lay_6 : decode cX3_lay 6 = .ok (.getfield 21, 3) := by decide +kernel
theorem dX3_lay_9 : decode cX3_lay 9 = .ok (.if_icmp .ge 10, 3) := by decide +kernel
theorem dX3_lay_12 : decode cX3_lay 12 = .ok (.aload_n 0, 1) := by decide +kernel
theorem dX3_lay_13 : decode cX3_lay 13 = .ok (.getfield 9, 3) := by decide +kernel
theorem dX3_lay_16 : decode cX3_lay 16 = .ok (.iload_n 1, 1) := by decide +kernel
theorem dX3_lay_17 : decode cX3_lay 17 = .ok (.lload_n 2, 1) := by decide +kernel
theorem dX3_lay_18 : decode cX3_lay 18 = .ok (.lastore, 1) := by decide +kernel
theorem dX3_lay_19 : decode cX3_lay 19 = .ok (.return_, 1) := by decide +kernel
theorem dX3_bodyOf_0 : decode cX3_bodyOf 0 = .ok (.aload_n 0, 1) := by decide +kernel
theorem dX3_bodyOf_1 : decode cX3_bodyOf 1 = .ok (.iload_n 1, 1) := by decide +kernel
theorem dX3_bodyOf_2 : decode cX3_bodyOf 2 = .ok (.invokevirtual 25, 3) := by decide +kernel
theorem dX3_bodyOf_5 : decode cX3_bodyOf 5 = .ok (.ldc2_w 29, 3) := by decide +kernel
theorem dX3_bodyOf_8 : decode cX3_bodyOf 8 = .ok (.ldiv, 1) := by decide +kernel
theorem dX3_bodyOf_9 : decode cX3_bodyOf 9 = .ok (.l2i, 1) := by decide +kernel
theorem dX3_bodyOf_10 : decode cX3_bodyOf 10 = .ok (.ireturn, 1) := by decide +kernel
theorem dX3_isFree_0 : decode cX3_isFree 0 = .ok (.aload_n 0, 1) := by decide +kernel
theorem dX3_isFree_1 : decode cX3_isFree 1 = .ok (.iload_n 1, 1) := by decide +kernel
theorem dX3_isFree_2 : decode cX3_isFree 2 = .ok (.invokevirtual 25, 3) := by decide +kernel
theorem dX3_isFree_5 : decode cX3_isFree 5 = .ok (.lconst 1, 1) := by decide +kernel
theorem dX3_isFree_6 : decode cX3_isFree 6 = .ok (.land, 1) := by decide +kernel
theorem dX3_isFree_7 : decode cX3_isFree 7 = .ok (.lconst 0, 1) := by decide +kernel
theorem dX3_isFree_8 : decode cX3_isFree 8 = .ok (.lcmp, 1) := by decide +kernel
theorem dX3_isFree_9 : decode cX3_isFree 9 = .ok (.ifCond .eq 7, 3) := by decide +kernel
theorem dX3_isFree_12 : decode cX3_isFree 12 = .ok (.iconst 1, 1) := by decide +kernel
theorem dX3_isFree_13 : decode cX3_isFree 13 = .ok (.goto 4, 3) := by decide +kernel
theorem dX3_isFree_16 : decode cX3_isFree 16 = .ok (.iconst 0, 1) := by decide +kernel
theorem dX3_isFree_17 : decode cX3_isFree 17 = .ok (.ireturn, 1) := by decide +kernel
theorem dX3_isAheadFree_0 : decode cX3_isAheadFree 0 = .ok (.aload_n 0, 1) := by decide +kernel
theorem dX3_isAheadFree_1 : decode cX3_isAheadFree 1 = .ok (.iload_n 1, 1) := by decide +kernel
theorem dX3_isAheadFree_2 : decode cX3_isAheadFree 2 = .ok (.invokevirtual 25, 3) := by decide +kernel
theorem dX3_isAheadFree_5 : decode cX3_isAheadFree 5 = .ok (.ldc2_w 31, 3) := by decide +kernel
theorem dX3_isAheadFree_8 : decode cX3_isAheadFree 8 = .ok (.land, 1) := by decide +kernel
theorem dX3_isAheadFree_9 : decode cX3_isAheadFree 9 = .ok (.lconst 0, 1) := by decide +kernel
theorem dX3_isAheadFree_10 : decode cX3_isAheadFree 10 = .ok (.lcmp, 1) := by decide +kernel
theorem dX3_isAheadFree_11 : decode cX3_isAheadFree 11 = .ok (.ifCond .eq 7, 3) := by decide +kernel
theorem dX3_isAheadFree_14 : decode cX3_isAheadFree 14 = .ok (.iconst 1, 1) := by decide +kernel
theorem dX3_isAheadFree_15 : decode cX3_isAheadFree 15 = .ok (.goto 4, 3) := by decide +kernel
theorem dX3_isAheadFree_18 : decode cX3_isAheadFree 18 = .ok (.iconst 0, 1) := by decide +kernel
theorem dX3_isAheadFree_19 : decode cX3_isAheadFree 19 = .ok (.ireturn, 1) := by decide +kernel
theorem dX3_behind_0 : decode cX3_behind 0 = .ok (.iload_n 1, 1) := by decide +kernel
theorem dX3_behind_1 : decode cX3_behind 1 = .ok (.iconst 1, 1) := by decide +kernel
theorem dX3_behind_2 : decode cX3_behind 2 = .ok (.iadd, 1) := by decide +kernel
theorem dX3_behind_3 : decode cX3_behind 3 = .ok (.aload_n 0, 1) := by decide +kernel
theorem dX3_behind_4 : decode cX3_behind 4 = .ok (.iload_n 1, 1) := by decide +kernel
theorem dX3_behind_5 : decode cX3_behind 5 = .ok (.invokevirtual 25, 3) := by decide +kernel
theorem dX3_behind_8 : decode cX3_behind 8 = .ok (.ldc2_w 29, 3) := by decide +kernel
theorem dX3_behind_11 : decode cX3_behind 11 = .ok (.ldiv, 1) := by decide +kernel
theorem dX3_behind_12 : decode cX3_behind 12 = .ok (.l2i, 1) := by decide +kernel
theorem dX3_behind_13 : decode cX3_behind 13 = .ok (.iadd, 1) := by decide +kernel
theorem dX3_behind_14 : decode cX3_behind 14 = .ok (.ireturn, 1) := by decide +kernel
theorem dX3_freeAhead_0 : decode cX3_freeAhead 0 = .ok (.iload_n 1, 1) := by decide +kernel
theorem dX3_freeAhead_1 : decode cX3_freeAhead 1 = .ok (.iconst 1, 1) := by decide +kernel
theorem dX3_freeAhead_2 : decode cX3_freeAhead 2 = .ok (.isub, 1) := by decide +kernel
theorem dX3_freeAhead_3 : decode cX3_freeAhead 3 = .ok (.aload_n 0, 1) := by decide +kernel
theorem dX3_freeAhead_4 : decode cX3_freeAhead 4 = .ok (.iload_n 1, 1) := by decide +kernel
theorem dX3_freeAhead_5 : decode cX3_freeAhead 5 = .ok (.iconst 1, 1) := by decide +kernel
theorem dX3_freeAhead_6 : decode cX3_freeAhead 6 = .ok (.isub, 1) := by decide +kernel
theorem dX3_freeAhead_7 : decode cX3_freeAhead 7 = .ok (.invokevirtual 25, 3) := by decide +kernel
theorem dX3_freeAhead_10 : decode cX3_freeAhead 10 = .ok (.l2i, 1) := by decide +kernel
theorem dX3_freeAhead_11 : decode cX3_freeAhead 11 = .ok (.isub, 1) := by decide +kernel
theorem dX3_freeAhead_12 : decode cX3_freeAhead 12 = .ok (.ireturn, 1) := by decide +kernel
theorem dX3_layHeader_0 : decode cX3_layHeader 0 = .ok (.aload_n 0, 1) := by decide +kernel
theorem dX3_layHeader_1 : decode cX3_layHeader 1 = .ok (.iload_n 1, 1) := by decide +kernel
theorem dX3_layHeader_2 : decode cX3_layHeader 2 = .ok (.iload_n 2, 1) := by decide +kernel
theorem dX3_layHeader_3 : decode cX3_layHeader 3 = .ok (.i2l, 1) := by decide +kernel
theorem dX3_layHeader_4 : decode cX3_layHeader 4 = .ok (.ldc2_w 29, 3) := by decide +kernel
theorem dX3_layHeader_7 : decode cX3_layHeader 7 = .ok (.lmul, 1) := by decide +kernel
theorem dX3_layHeader_8 : decode cX3_layHeader 8 = .ok (.iload_n 3, 1) := by decide +kernel
theorem dX3_layHeader_9 : decode cX3_layHeader 9 = .ok (.i2l, 1) := by decide +kernel
theorem dX3_layHeader_10 : decode cX3_layHeader 10 = .ok (.ladd, 1) := by decide +kernel
theorem dX3_layHeader_11 : decode cX3_layHeader 11 = .ok (.invokevirtual 33, 3) := by decide +kernel
theorem dX3_layHeader_14 : decode cX3_layHeader 14 = .ok (.return_, 1) := by decide +kernel
theorem dX3_layBody_0 : decode cX3_layBody 0 = .ok (.aload_n 0, 1) := by decide +kernel
theorem dX3_layBody_1 : decode cX3_layBody 1 = .ok (.iload_n 1, 1) := by decide +kernel
theorem dX3_layBody_2 : decode cX3_layBody 2 = .ok (.iload_n 2, 1) := by decide +kernel
theorem dX3_layBody_3 : decode cX3_layBody 3 = .ok (.aload_n 0, 1) := by decide +kernel
theorem dX3_layBody_4 : decode cX3_layBody 4 = .ok (.iload_n 1, 1) := by decide +kernel
theorem dX3_layBody_5 : decode cX3_layBody 5 = .ok (.invokevirtual 25, 3) := by decide +kernel
theorem dX3_layBody_8 : decode cX3_layBody 8 = .ok (.ldc2_w 37, 3) := by decide +kernel
theorem dX3_layBody_11 : decode cX3_layBody 11 = .ok (.land, 1) := by decide +kernel
theorem dX3_layBody_12 : decode cX3_layBody 12 = .ok (.l2i, 1) := by decide +kernel
theorem dX3_layBody_13 : decode cX3_layBody 13 = .ok (.invokevirtual 39, 3) := by decide +kernel
theorem dX3_layBody_16 : decode cX3_layBody 16 = .ok (.return_, 1) := by decide +kernel
theorem dX3_tellBehind_0 : decode cX3_tellBehind 0 = .ok (.aload_n 0, 1) := by decide +kernel
theorem dX3_tellBehind_1 : decode cX3_tellBehind 1 = .ok (.iload_n 1, 1) := by decide +kernel
theorem dX3_tellBehind_2 : decode cX3_tellBehind 2 = .ok (.invokevirtual 43, 3) := by decide +kernel
theorem dX3_tellBehind_5 : decode cX3_tellBehind 5 = .ok (.istore_n 2, 1) := by decide +kernel
theorem dX3_tellBehind_6 : decode cX3_tellBehind 6 = .ok (.aload_n 0, 1) := by decide +kernel
theorem dX3_tellBehind_7 : decode cX3_tellBehind 7 = .ok (.iload_n 2, 1) := by decide +kernel
theorem dX3_tellBehind_8 : decode cX3_tellBehind 8 = .ok (.invokevirtual 25, 3) := by decide +kernel
theorem dX3_tellBehind_11 : decode cX3_tellBehind 11 = .ok (.ldc2_w 47, 3) := by decide +kernel
theorem dX3_tellBehind_14 : decode cX3_tellBehind 14 = .ok (.land, 1) := by decide +kernel
theorem dX3_tellBehind_15 : decode cX3_tellBehind 15 = .ok (.lstore_n 3, 1) := by decide +kernel
theorem dX3_tellBehind_16 : decode cX3_tellBehind 16 = .ok (.aload_n 0, 1) := by decide +kernel
theorem dX3_tellBehind_17 : decode cX3_tellBehind 17 = .ok (.iload_n 2, 1) := by decide +kernel
theorem dX3_tellBehind_18 : decode cX3_tellBehind 18 = .ok (.aload_n 0, 1) := by decide +kernel
theorem dX3_tellBehind_19 : decode cX3_tellBehind 19 = .ok (.iload_n 1, 1) := by decide +kernel
theorem dX3_tellBehind_20 : decode cX3_tellBehind 20 = .ok (.invokevirtual 49, 3) := by decide +kernel
theorem dX3_tellBehind_23 : decode cX3_tellBehind 23 = .ok (.ifCond .eq 11, 3) := by decide +kernel
theorem dX3_tellBehind_26 : decode cX3_tellBehind 26 = .ok (.lload_n 3, 1) := by decide +kernel
theorem dX3_tellBehind_27 : decode cX3_tellBehind 27 = .ok (.ldc2_w 31, 3) := by decide +kernel
theorem dX3_tellBehind_30 : decode cX3_tellBehind 30 = .ok (.ladd, 1) := by decide +kernel
theorem dX3_tellBehind_31 : decode cX3_tellBehind 31 = .ok (.goto 4, 3) := by decide +kernel
theorem dX3_tellBehind_34 : decode cX3_tellBehind 34 = .ok (.lload_n 3, 1) := by decide +kernel
theorem dX3_tellBehind_35 : decode cX3_tellBehind 35 = .ok (.invokevirtual 33, 3) := by decide +kernel
theorem dX3_tellBehind_38 : decode cX3_tellBehind 38 = .ok (.return_, 1) := by decide +kernel
theorem dJ6_numberOfLeadingZeros_0f7a4_0 : decode cJ6_numberOfLeadingZeros_0f7a4 0 = .ok (.iload_n 0, 1) := by decide +kernel
theorem dJ6_numberOfLeadingZeros_0f7a4_1 : decode cJ6_numberOfLeadingZeros_0f7a4 1 = .ok (.ifCond .gt 14, 3) := by decide +kernel
theorem dJ6_numberOfLeadingZeros_0f7a4_4 : decode cJ6_numberOfLeadingZeros_0f7a4 4 = .ok (.iload_n 0, 1) := by decide +kernel
theorem dJ6_numberOfLeadingZeros_0f7a4_5 : decode cJ6_numberOfLeadingZeros_0f7a4 5 = .ok (.ifCond .ne 8, 3) := by decide +kernel
theorem dJ6_numberOfLeadingZeros_0f7a4_8 : decode cJ6_numberOfLeadingZeros_0f7a4 8 = .ok (.bipush 32, 2) := by decide +kernel
theorem dJ6_numberOfLeadingZeros_0f7a4_10 : decode cJ6_numberOfLeadingZeros_0f7a4 10 = .ok (.goto 4, 3) := by decide +kernel
theorem dJ6_numberOfLeadingZeros_0f7a4_13 : decode cJ6_numberOfLeadingZeros_0f7a4 13 = .ok (.iconst 0, 1) := by decide +kernel
theorem dJ6_numberOfLeadingZeros_0f7a4_14 : decode cJ6_numberOfLeadingZeros_0f7a4 14 = .ok (.ireturn, 1) := by decide +kernel
theorem dJ6_numberOfLeadingZeros_0f7a4_15 : decode cJ6_numberOfLeadingZeros_0f7a4 15 = .ok (.bipush 31, 2) := by decide +kernel
theorem dJ6_numberOfLeadingZeros_0f7a4_17 : decode cJ6_numberOfLeadingZeros_0f7a4 17 = .ok (.istore_n 1, 1) := by decide +kernel
theorem dJ6_numberOfLeadingZeros_0f7a4_18 : decode cJ6_numberOfLeadingZeros_0f7a4 18 = .ok (.iload_n 0, 1) := by decide +kernel
theorem dJ6_numberOfLeadingZeros_0f7a4_19 : decode cJ6_numberOfLeadingZeros_0f7a4 19 = .ok (.ldc_w 264, 3) := by decide +kernel
theorem dJ6_numberOfLeadingZeros_0f7a4_22 : decode cJ6_numberOfLeadingZeros_0f7a4 22 = .ok (.if_icmp .lt 11, 3) := by decide +kernel
theorem dJ6_numberOfLeadingZeros_0f7a4_25 : decode cJ6_numberOfLeadingZeros_0f7a4 25 = .ok (.iinc 1 (-16), 3) := by decide +kernel
theorem dJ6_numberOfLeadingZeros_0f7a4_28 : decode cJ6_numberOfLeadingZeros_0f7a4 28 = .ok (.iload_n 0, 1) := by decide +kernel
theorem dJ6_numberOfLeadingZeros_0f7a4_29 : decode cJ6_numberOfLeadingZeros_0f7a4 29 = .ok (.bipush 16, 2) := by decide +kernel
theorem dJ6_numberOfLeadingZeros_0f7a4_31 : decode cJ6_numberOfLeadingZeros_0f7a4 31 = .ok (.iushr, 1) := by decide +kernel
theorem dJ6_numberOfLeadingZeros_0f7a4_32 : decode cJ6_numberOfLeadingZeros_0f7a4 32 = .ok (.istore_n 0, 1) := by decide +kernel
theorem dJ6_numberOfLeadingZeros_0f7a4_33 : decode cJ6_numberOfLeadingZeros_0f7a4 33 = .ok (.iload_n 0, 1) := by decide +kernel
theorem dJ6_numberOfLeadingZeros_0f7a4_34 : decode cJ6_numberOfLeadingZeros_0f7a4 34 = .ok (.sipush 256, 3) := by decide +kernel
theorem dJ6_numberOfLeadingZeros_0f7a4_37 : decode cJ6_numberOfLeadingZeros_0f7a4 37 = .ok (.if_icmp .lt 11, 3) := by decide +kernel
theorem dJ6_numberOfLeadingZeros_0f7a4_40 : decode cJ6_numberOfLeadingZeros_0f7a4 40 = .ok (.iinc 1 (-8), 3) := by decide +kernel
theorem dJ6_numberOfLeadingZeros_0f7a4_43 : decode cJ6_numberOfLeadingZeros_0f7a4 43 = .ok (.iload_n 0, 1) := by decide +kernel
theorem dJ6_numberOfLeadingZeros_0f7a4_44 : decode cJ6_numberOfLeadingZeros_0f7a4 44 = .ok (.bipush 8, 2) := by decide +kernel
theorem dJ6_numberOfLeadingZeros_0f7a4_46 : decode cJ6_numberOfLeadingZeros_0f7a4 46 = .ok (.iushr, 1) := by decide +kernel
theorem dJ6_numberOfLeadingZeros_0f7a4_47 : decode cJ6_numberOfLeadingZeros_0f7a4 47 = .ok (.istore_n 0, 1) := by decide +kernel
theorem dJ6_numberOfLeadingZeros_0f7a4_48 : decode cJ6_numberOfLeadingZeros_0f7a4 48 = .ok (.iload_n 0, 1) := by decide +kernel
theorem dJ6_numberOfLeadingZeros_0f7a4_49 : decode cJ6_numberOfLeadingZeros_0f7a4 49 = .ok (.bipush 16, 2) := by decide +kernel
theorem dJ6_numberOfLeadingZeros_0f7a4_51 : decode cJ6_numberOfLeadingZeros_0f7a4 51 = .ok (.if_icmp .lt 10, 3) := by decide +kernel
theorem dJ6_numberOfLeadingZeros_0f7a4_54 : decode cJ6_numberOfLeadingZeros_0f7a4 54 = .ok (.iinc 1 (-4), 3) := by decide +kernel
theorem dJ6_numberOfLeadingZeros_0f7a4_57 : decode cJ6_numberOfLeadingZeros_0f7a4 57 = .ok (.iload_n 0, 1) := by decide +kernel
theorem dJ6_numberOfLeadingZeros_0f7a4_58 : decode cJ6_numberOfLeadingZeros_0f7a4 58 = .ok (.iconst 4, 1) := by decide +kernel
theorem dJ6_numberOfLeadingZeros_0f7a4_59 : decode cJ6_numberOfLeadingZeros_0f7a4 59 = .ok (.iushr, 1) := by decide +kernel
theorem dJ6_numberOfLeadingZeros_0f7a4_60 : decode cJ6_numberOfLeadingZeros_0f7a4 60 = .ok (.istore_n 0, 1) := by decide +kernel
theorem dJ6_numberOfLeadingZeros_0f7a4_61 : decode cJ6_numberOfLeadingZeros_0f7a4 61 = .ok (.iload_n 0, 1) := by decide +kernel
theorem dJ6_numberOfLeadingZeros_0f7a4_62 : decode cJ6_numberOfLeadingZeros_0f7a4 62 = .ok (.iconst 4, 1) := by decide +kernel
theorem dJ6_numberOfLeadingZeros_0f7a4_63 : decode cJ6_numberOfLeadingZeros_0f7a4 63 = .ok (.if_icmp .lt 10, 3) := by decide +kernel
theorem dJ6_numberOfLeadingZeros_0f7a4_66 : decode cJ6_numberOfLeadingZeros_0f7a4 66 = .ok (.iinc 1 (-2), 3) := by decide +kernel
theorem dJ6_numberOfLeadingZeros_0f7a4_69 : decode cJ6_numberOfLeadingZeros_0f7a4 69 = .ok (.iload_n 0, 1) := by decide +kernel
theorem dJ6_numberOfLeadingZeros_0f7a4_70 : decode cJ6_numberOfLeadingZeros_0f7a4 70 = .ok (.iconst 2, 1) := by decide +kernel
theorem dJ6_numberOfLeadingZeros_0f7a4_71 : decode cJ6_numberOfLeadingZeros_0f7a4 71 = .ok (.iushr, 1) := by decide +kernel
theorem dJ6_numberOfLeadingZeros_0f7a4_72 : decode cJ6_numberOfLeadingZeros_0f7a4 72 = .ok (.istore_n 0, 1) := by decide +kernel
theorem dJ6_numberOfLeadingZeros_0f7a4_73 : decode cJ6_numberOfLeadingZeros_0f7a4 73 = .ok (.iload_n 1, 1) := by decide +kernel
theorem dJ6_numberOfLeadingZeros_0f7a4_74 : decode cJ6_numberOfLeadingZeros_0f7a4 74 = .ok (.iload_n 0, 1) := by decide +kernel
theorem dJ6_numberOfLeadingZeros_0f7a4_75 : decode cJ6_numberOfLeadingZeros_0f7a4 75 = .ok (.iconst 1, 1) := by decide +kernel
theorem dJ6_numberOfLeadingZeros_0f7a4_76 : decode cJ6_numberOfLeadingZeros_0f7a4 76 = .ok (.iushr, 1) := by decide +kernel
theorem dJ6_numberOfLeadingZeros_0f7a4_77 : decode cJ6_numberOfLeadingZeros_0f7a4 77 = .ok (.isub, 1) := by decide +kernel
theorem dJ6_numberOfLeadingZeros_0f7a4_78 : decode cJ6_numberOfLeadingZeros_0f7a4 78 = .ok (.ireturn, 1) := by decide +kernel
theorem dJ7_fill_d0a16_0 : decode cJ7_fill_d0a16 0 = .ok (.iconst 0, 1) := by decide +kernel
theorem dJ7_fill_d0a16_1 : decode cJ7_fill_d0a16 1 = .ok (.istore_n 3, 1) := by decide +kernel
theorem dJ7_fill_d0a16_2 : decode cJ7_fill_d0a16 2 = .ok (.aload_n 0, 1) := by decide +kernel
theorem dJ7_fill_d0a16_3 : decode cJ7_fill_d0a16 3 = .ok (.arraylength, 1) := by decide +kernel
theorem dJ7_fill_d0a16_4 : decode cJ7_fill_d0a16 4 = .ok (.istore 4, 2) := by decide +kernel
theorem dJ7_fill_d0a16_6 : decode cJ7_fill_d0a16 6 = .ok (.iload_n 3, 1) := by decide +kernel
theorem dJ7_fill_d0a16_7 : decode cJ7_fill_d0a16 7 = .ok (.iload 4, 2) := by decide +kernel
theorem dJ7_fill_d0a16_9 : decode cJ7_fill_d0a16 9 = .ok (.if_icmp .ge 13, 3) := by decide +kernel
theorem dJ7_fill_d0a16_12 : decode cJ7_fill_d0a16 12 = .ok (.aload_n 0, 1) := by decide +kernel
theorem dJ7_fill_d0a16_13 : decode cJ7_fill_d0a16 13 = .ok (.iload_n 3, 1) := by decide +kernel
theorem dJ7_fill_d0a16_14 : decode cJ7_fill_d0a16 14 = .ok (.lload_n 1, 1) := by decide +kernel
theorem dJ7_fill_d0a16_15 : decode cJ7_fill_d0a16 15 = .ok (.lastore, 1) := by decide +kernel
theorem dJ7_fill_d0a16_16 : decode cJ7_fill_d0a16 16 = .ok (.iinc 3 1, 3) := by decide +kernel
theorem dJ7_fill_d0a16_19 : decode cJ7_fill_d0a16 19 = .ok (.goto (-13), 3) := by decide +kernel
theorem dJ7_fill_d0a16_22 : decode cJ7_fill_d0a16 22 = .ok (.return_, 1) := by decide +kernel
theorem dJ7_fill_53178_0 : decode cJ7_fill_53178 0 = .ok (.iconst 0, 1) := by decide +kernel
theorem dJ7_fill_53178_1 : decode cJ7_fill_53178 1 = .ok (.istore_n 2, 1) := by decide +kernel
theorem dJ7_fill_53178_2 : decode cJ7_fill_53178 2 = .ok (.aload_n 0, 1) := by decide +kernel
theorem dJ7_fill_53178_3 : decode cJ7_fill_53178 3 = .ok (.arraylength, 1) := by decide +kernel
theorem dJ7_fill_53178_4 : decode cJ7_fill_53178 4 = .ok (.istore_n 3, 1) := by decide +kernel
theorem dJ7_fill_53178_5 : decode cJ7_fill_53178 5 = .ok (.iload_n 2, 1) := by decide +kernel
theorem dJ7_fill_53178_6 : decode cJ7_fill_53178 6 = .ok (.iload_n 3, 1) := by decide +kernel
theorem dJ7_fill_53178_7 : decode cJ7_fill_53178 7 = .ok (.if_icmp .ge 13, 3) := by decide +kernel
theorem dJ7_fill_53178_10 : decode cJ7_fill_53178 10 = .ok (.aload_n 0, 1) := by decide +kernel
theorem dJ7_fill_53178_11 : decode cJ7_fill_53178 11 = .ok (.iload_n 2, 1) := by decide +kernel
theorem dJ7_fill_53178_12 : decode cJ7_fill_53178 12 = .ok (.iload_n 1, 1) := by decide +kernel
theorem dJ7_fill_53178_13 : decode cJ7_fill_53178 13 = .ok (.iastore, 1) := by decide +kernel
theorem dJ7_fill_53178_14 : decode cJ7_fill_53178 14 = .ok (.iinc 2 1, 3) := by decide +kernel
theorem dJ7_fill_53178_17 : decode cJ7_fill_53178 17 = .ok (.goto (-12), 3) := by decide +kernel
theorem dJ7_fill_53178_20 : decode cJ7_fill_53178 20 = .ok (.return_, 1) := by decide +kernel
theorem dJ9_max_7cf53_0 : decode cJ9_max_7cf53 0 = .ok (.iload_n 0, 1) := by decide +kernel
theorem dJ9_max_7cf53_1 : decode cJ9_max_7cf53 1 = .ok (.iload_n 1, 1) := by decide +kernel
theorem dJ9_max_7cf53_2 : decode cJ9_max_7cf53 2 = .ok (.if_icmp .lt 7, 3) := by decide +kernel
theorem dJ9_max_7cf53_5 : decode cJ9_max_7cf53 5 = .ok (.iload_n 0, 1) := by decide +kernel
theorem dJ9_max_7cf53_6 : decode cJ9_max_7cf53 6 = .ok (.goto 4, 3) := by decide +kernel
theorem dJ9_max_7cf53_9 : decode cJ9_max_7cf53 9 = .ok (.iload_n 1, 1) := by decide +kernel
theorem dJ9_max_7cf53_10 : decode cJ9_max_7cf53 10 = .ok (.ireturn, 1) := by decide +kernel
theorem dJ9_min_7cf53_0 : decode cJ9_min_7cf53 0 = .ok (.iload_n 0, 1) := by decide +kernel
theorem dJ9_min_7cf53_1 : decode cJ9_min_7cf53 1 = .ok (.iload_n 1, 1) := by decide +kernel
theorem dJ9_min_7cf53_2 : decode cJ9_min_7cf53 2 = .ok (.if_icmp .gt 7, 3) := by decide +kernel
theorem dJ9_min_7cf53_5 : decode cJ9_min_7cf53 5 = .ok (.iload_n 0, 1) := by decide +kernel
theorem dJ9_min_7cf53_6 : decode cJ9_min_7cf53 6 = .ok (.goto 4, 3) := by decide +kernel
theorem dJ9_min_7cf53_9 : decode cJ9_min_7cf53 9 = .ok (.iload_n 1, 1) := by decide +kernel
theorem dJ9_min_7cf53_10 : decode cJ9_min_7cf53 10 = .ok (.ireturn, 1) := by decide +kernel
end
section
theorem dX4_init_0 : decode cX4_init 0 = .ok (.aload_n 0, 1) := by decide +kernel
theorem dX4_init_1 : decode cX4_init 1 = .ok (.invokespecial 3, 3) := by decide +kernel
theorem dX4_init_4 : decode cX4_init 4 = .ok (.aload_n 0, 1) := by decide +kernel
theorem dX4_init_5 : decode cX4_init 5 = .ok (.new 9, 3) := by decide +kernel
theorem dX4_init_8 : decode cX4_init 8 = .ok (.dup, 1) := by decide +kernel
theorem dX4_init_9 : decode cX4_init 9 = .ok (.invokespecial 11, 3) := by decide +kernel
theorem dX4_init_12 : decode cX4_init 12 = .ok (.putfield 12, 3) := by decide +kernel
theorem dX4_init_15 : decode cX4_init 15 = .ok (.aload_n 0, 1) := by decide +kernel
theorem dX4_init_16 : decode cX4_init 16 = .ok (.new 16, 3) := by decide +kernel
theorem dX4_init_19 : decode cX4_init 19 = .ok (.dup, 1) := by decide +kernel
theorem dX4_init_20 : decode cX4_init 20 = .ok (.aload_n 0, 1) := by decide +kernel
theorem dX4_init_21 : decode cX4_init 21 = .ok (.getfield 12, 3) := by decide +kernel
theorem dX4_init_24 : decode cX4_init 24 = .ok (.invokespecial 18, 3) := by decide +kernel
theorem dX4_init_27 : decode cX4_init 27 = .ok (.putfield 21, 3) := by decide +kernel
theorem dX4_init_30 : decode cX4_init 30 = .ok (.aload_n 0, 1) := by decide +kernel
theorem dX4_init_31 : decode cX4_init 31 = .ok (.new 25, 3) := by decide +kernel
theorem dX4_init_34 : decode cX4_init 34 = .ok (.dup, 1) := by decide +kernel
theorem dX4_init_35 : decode cX4_init 35 = .ok (.aload_n 0, 1) := by decide +kernel
theorem dX4_init_36 : decode cX4_init 36 = .ok (.getfield 12, 3) := by decide +kernel
theorem dX4_init_39 : decode cX4_init 39 = .ok (.aload_n 0, 1) := by decide +kernel
theorem dX4_init_40 : decode cX4_init 40 = .ok (.getfield 21, 3) := by decide +kernel
theorem dX4_init_43 : decode cX4_init 43 = .ok (.invokespecial 27, 3) := by decide +kernel
theorem dX4_init_46 : decode cX4_init 46 = .ok (.putfield 30, 3) := by decide +kernel
theorem dX4_init_49 : decode cX4_init 49 = .ok (.aload_n 0, 1) := by decide +kernel
theorem dX4_init_50 : decode cX4_init 50 = .ok (.bipush 64, 2) := by decide +kernel
theorem dX4_init_52 : decode cX4_init 52 = .ok (.invokevirtual 34, 3) := by decide +kernel
theorem dX4_init_55 : decode cX4_init 55 = .ok (.return_, 1) := by decide +kernel
theorem dX4_open_0 : decode cX4_open 0 = .ok (.iload_n 1, 1) := by decide +kernel
theorem dX4_open_1 : decode cX4_open 1 = .ok (.bipush 16, 2) := by decide +kernel
theorem dX4_open_3 : decode cX4_open 3 = .ok (.if_icmp .lt 10, 3) := by decide +kernel
theorem dX4_open_6 : decode cX4_open 6 = .ok (.iload_n 1, 1) := by decide +kernel
theorem dX4_open_7 : decode cX4_open 7 = .ok (.sipush 2048, 3) := by decide +kernel
theorem dX4_open_10 : decode cX4_open 10 = .ok (.if_icmp .le 6, 3) := by decide +kernel
theorem dX4_open_13 : decode cX4_open 13 = .ok (.bipush (-2), 2) := by decide +kernel
theorem dX4_open_15 : decode cX4_open 15 = .ok (.ireturn, 1) := by decide +kernel
theorem dX4_open_16 : decode cX4_open 16 = .ok (.aload_n 0, 1) := by decide +kernel
theorem dX4_open_17 : decode cX4_open 17 = .ok (.iload_n 1, 1) := by decide +kernel
theorem dX4_open_18 : decode cX4_open 18 = .ok (.invokevirtual 34, 3) := by decide +kernel
theorem dX4_open_21 : decode cX4_open 21 = .ok (.iconst 1, 1) := by decide +kernel
theorem dX4_open_22 : decode cX4_open 22 = .ok (.ireturn, 1) := by decide +kernel
theorem dX4_alloc_0 : decode cX4_alloc 0 = .ok (.iload_n 1, 1) := by decide +kernel
theorem dX4_alloc_1 : decode cX4_alloc 1 = .ok (.invokestatic 38, 3) := by decide +kernel
theorem dX4_alloc_4 : decode cX4_alloc 4 = .ok (.ifCond .ne 6, 3) := by decide +kernel
theorem dX4_alloc_7 : decode cX4_alloc 7 = .ok (.bipush (-2), 2) := by decide +kernel
theorem dX4_alloc_9 : decode cX4_alloc 9 = .ok (.ireturn, 1) := by decide +kernel
theorem dX4_alloc_10 : decode cX4_alloc 10 = .ok (.aload_n 0, 1) := by decide +kernel
theorem dX4_alloc_11 : decode cX4_alloc 11 = .ok (.getfield 42, 3) := by decide +kernel
theorem dX4_alloc_14 : decode cX4_alloc 14 = .ok (.ifCond .eq 6, 3) := by decide +kernel
theorem dX4_alloc_17 : decode cX4_alloc 17 = .ok (.bipush (-3), 2) := by decide +kernel
theorem dX4_alloc_19 : decode cX4_alloc 19 = .ok (.ireturn, 1) := by decide +kernel
theorem dX4_alloc_20 : decode cX4_alloc 20 = .ok (.iload_n 1, 1) := by decide +kernel
theorem dX4_alloc_21 : decode cX4_alloc 21 = .ok (.invokestatic 46, 3) := by decide +kernel
theorem dX4_alloc_24 : decode cX4_alloc 24 = .ok (.istore_n 2, 1) := by decide +kernel
theorem dX4_alloc_25 : decode cX4_alloc 25 = .ok (.aload_n 0, 1) := by decide +kernel
theorem dX4_alloc_26 : decode cX4_alloc 26 = .ok (.getfield 21, 3) := by decide +kernel
theorem dX4_alloc_29 : decode cX4_alloc 29 = .ok (.iload_n 2, 1) := by decide +kernel
theorem dX4_alloc_30 : decode cX4_alloc 30 = .ok (.invokevirtual 50, 3) := by decide +kernel
theorem dX4_alloc_33 : decode cX4_alloc 33 = .ok (.istore_n 3, 1) := by decide +kernel
theorem dX4_alloc_34 : decode cX4_alloc 34 = .ok (.iload_n 3, 1) := by decide +kernel
theorem dX4_alloc_35 : decode cX4_alloc 35 = .ok (.iconst (-1), 1) := by decide +kernel
theorem dX4_alloc_36 : decode cX4_alloc 36 = .ok (.if_icmp .ne 8, 3) := by decide +kernel
theorem dX4_alloc_39 : decode cX4_alloc 39 = .ok (.aload_n 0, 1) := by decide +kernel
theorem dX4_alloc_40 : decode cX4_alloc 40 = .ok (.invokevirtual 53, 3) := by decide +kernel
theorem dX4_alloc_43 : decode cX4_alloc 43 = .ok (.ireturn, 1) := by decide +kernel
theorem dX4_alloc_44 : decode cX4_alloc 44 = .ok (.aload_n 0, 1) := by decide +kernel
theorem dX4_alloc_45 : decode cX4_alloc 45 = .ok (.getfield 21, 3) := by decide +kernel
theorem dX4_alloc_48 : decode cX4_alloc 48 = .ok (.invokevirtual 57, 3) := by decide +kernel
theorem dX4_alloc_51 : decode cX4_alloc 51 = .ok (.aload_n 0, 1) := by decide +kernel
theorem dX4_alloc_52 : decode cX4_alloc 52 = .ok (.iload_n 3, 1) := by decide +kernel
theorem dX4_alloc_53 : decode cX4_alloc 53 = .ok (.invokevirtual 60, 3) := by decide +kernel
theorem dX4_alloc_56 : decode cX4_alloc 56 = .ok (.aload_n 0, 1) := by decide +kernel
theorem dX4_alloc_57 : decode cX4_alloc 57 = .ok (.iload_n 3, 1) := by decide +kernel
theorem dX4_alloc_58 : decode cX4_alloc 58 = .ok (.iload_n 2, 1) := by decide +kernel
theorem dX4_alloc_59 : decode cX4_alloc 59 = .ok (.invokevirtual 63, 3) := by decide +kernel
theorem dX4_alloc_62 : decode cX4_alloc 62 = .ok (.iload_n 3, 1) := by decide +kernel
theorem dX4_alloc_63 : decode cX4_alloc 63 = .ok (.iconst 1, 1) := by decide +kernel
theorem dX4_alloc_64 : decode cX4_alloc 64 = .ok (.iadd, 1) := by decide +kernel
theorem dX4_alloc_65 : decode cX4_alloc 65 = .ok (.ireturn, 1) := by decide +kernel
theorem dX4_aligned_0 : decode cX4_aligned 0 = .ok (.iload_n 1, 1) := by decide +kernel
theorem dX4_aligned_1 : decode cX4_aligned 1 = .ok (.invokestatic 38, 3) := by decide +kernel
theorem dX4_aligned_4 : decode cX4_aligned 4 = .ok (.ifCond .eq 10, 3) := by decide +kernel
theorem dX4_aligned_7 : decode cX4_aligned 7 = .ok (.iload_n 2, 1) := by decide +kernel
theorem dX4_aligned_8 : decode cX4_aligned 8 = .ok (.invokestatic 67, 3) := by decide +kernel
theorem dX4_aligned_11 : decode cX4_aligned 11 = .ok (.ifCond .ne 6, 3) := by decide +kernel
theorem dX4_aligned_14 : decode cX4_aligned 14 = .ok (.bipush (-2), 2) := by decide +kernel
theorem dX4_aligned_16 : decode cX4_aligned 16 = .ok (.ireturn, 1) := by decide +kernel
theorem dX4_aligned_17 : decode cX4_aligned 17 = .ok (.aload_n 0, 1) := by decide +kernel
theorem dX4_aligned_18 : decode cX4_aligned 18 = .ok (.getfield 42, 3) := by decide +kernel
theorem dX4_aligned_21 : decode cX4_aligned 21 = .ok (.ifCond .eq 6, 3) := by decide +kernel
theorem dX4_aligned_24 : decode cX4_aligned 24 = .ok (.bipush (-3), 2) := by decide +kernel
theorem dX4_aligned_26 : decode cX4_aligned 26 = .ok (.ireturn, 1) := by decide +kernel
theorem dX4_aligned_27 : decode cX4_aligned 27 = .ok (.iload_n 1, 1) := by decide +kernel
theorem dX4_aligned_28 : decode cX4_aligned 28 = .ok (.invokestatic 46, 3) := by decide +kernel
theorem dX4_aligned_31 : decode cX4_aligned 31 = .ok (.istore_n 3, 1) := by decide +kernel
theorem dX4_aligned_32 : decode cX4_aligned 32 = .ok (.aload_n 0, 1) := by decide +kernel
theorem dX4_aligned_33 : decode cX4_aligned 33 = .ok (.getfield 21, 3) := by decide +kernel
theorem dX4_aligned_36 : decode cX4_aligned 36 = .ok (.iload_n 3, 1) := by decide +kernel
theorem dX4_aligned_37 : decode cX4_aligned 37 = .ok (.iload_n 2, 1) := by decide +kernel
theorem dX4_aligned_38 : decode cX4_aligned 38 = .ok (.invokestatic 70, 3) := by decide +kernel
theorem dX4_aligned_41 : decode cX4_aligned 41 = .ok (.iadd, 1) := by decide +kernel
theorem dX4_aligned_42 : decode cX4_aligned 42 = .ok (.invokevirtual 50, 3) := by decide +kernel
theorem dX4_aligned_45 : decode cX4_aligned 45 = .ok (.istore 4, 2) := by decide +kernel
theorem dX4_aligned_47 : decode cX4_aligned 47 = .ok (.iload 4, 2) := by decide +kernel
theorem dX4_aligned_49 : decode cX4_aligned 49 = .ok (.iconst (-1), 1) := by decide +kernel
theorem dX4_aligned_50 : decode cX4_aligned 50 = .ok (.if_icmp .ne 8, 3) := by decide +kernel
theorem dX4_aligned_53 : decode cX4_aligned 53 = .ok (.aload_n 0, 1) := by decide +kernel
theorem dX4_aligned_54 : decode cX4_aligned 54 = .ok (.invokevirtual 53, 3) := by decide +kernel
theorem dX4_aligned_57 : decode cX4_aligned 57 = .ok (.ireturn, 1) := by decide +kernel
theorem dX4_aligned_58 : decode cX4_aligned 58 = .ok (.aload_n 0, 1) := by decide +kernel
theorem dX4_aligned_59 : decode cX4_aligned 59 = .ok (.getfield 21, 3) := by decide +kernel
theorem dX4_aligned_62 : decode cX4_aligned 62 = .ok (.invokevirtual 57, 3) := by decide +kernel
theorem dX4_aligned_65 : decode cX4_aligned 65 = .ok (.aload_n 0, 1) := by decide +kernel
theorem dX4_aligned_66 : decode cX4_aligned 66 = .ok (.iload 4, 2) := by decide +kernel
theorem dX4_aligned_68 : decode cX4_aligned 68 = .ok (.invokevirtual 60, 3) := by decide +kernel
theorem dX4_aligned_71 : decode cX4_aligned 71 = .ok (.iload 4, 2) := by decide +kernel
theorem dX4_aligned_73 : decode cX4_aligned 73 = .ok (.iconst 1, 1) := by decide +kernel
theorem dX4_aligned_74 : decode cX4_aligned 74 = .ok (.iadd, 1) := by decide +kernel
theorem dX4_aligned_75 : decode cX4_aligned 75 = .ok (.iload_n 2, 1) := by decide +kernel
theorem dX4_aligned_76 : decode cX4_aligned 76 = .ok (.invokestatic 73, 3) := by decide +kernel
theorem dX4_aligned_79 : decode cX4_aligned 79 = .ok (.istore 5, 2) := by decide +kernel
theorem dX4_aligned_81 : decode cX4_aligned 81 = .ok (.iload 5, 2) := by decide +kernel
theorem dX4_aligned_83 : decode cX4_aligned 83 = .ok (.iload 4, 2) := by decide +kernel
theorem dX4_aligned_85 : decode cX4_aligned 85 = .ok (.iconst 1, 1) := by decide +kernel
theorem dX4_aligned_86 : decode cX4_aligned 86 = .ok (.iadd, 1) := by decide +kernel
theorem dX4_aligned_87 : decode cX4_aligned 87 = .ok (.if_icmp .eq 13, 3) := by decide +kernel
theorem dX4_aligned_90 : decode cX4_aligned 90 = .ok (.aload_n 0, 1) := by decide +kernel
theorem dX4_aligned_91 : decode cX4_aligned 91 = .ok (.iload 4, 2) := by decide +kernel
theorem dX4_aligned_93 : decode cX4_aligned 93 = .ok (.iload 5, 2) := by decide +kernel
theorem dX4_aligned_95 : decode cX4_aligned 95 = .ok (.iconst 1, 1) := by decide +kernel
theorem dX4_aligned_96 : decode cX4_aligned 96 = .ok (.isub, 1) := by decide +kernel
theorem dX4_aligned_97 : decode cX4_aligned 97 = .ok (.invokevirtual 77, 3) := by decide +kernel
theorem dX4_aligned_100 : decode cX4_aligned 100 = .ok (.aload_n 0, 1) := by decide +kernel
theorem dX4_aligned_101 : decode cX4_aligned 101 = .ok (.iload 5, 2) := by decide +kernel
theorem dX4_aligned_103 : decode cX4_aligned 103 = .ok (.iconst 1, 1) := by decide +kernel
theorem dX4_aligned_104 : decode cX4_aligned 104 = .ok (.isub, 1) := by decide +kernel
theorem dX4_aligned_105 : decode cX4_aligned 105 = .ok (.iload_n 3, 1) := by decide +kernel
theorem dX4_aligned_106 : decode cX4_aligned 106 = .ok (.invokevirtual 63, 3) := by decide +kernel
theorem dX4_aligned_109 : decode cX4_aligned 109 = .ok (.iload 5, 2) := by decide +kernel
theorem dX4_aligned_111 : decode cX4_aligned 111 = .ok (.ireturn, 1) := by decide +kernel
theorem dX4_free_0 : decode cX4_free 0 = .ok (.aload_n 0, 1) := by decide +kernel
theorem dX4_free_1 : decode cX4_free 1 = .ok (.iload_n 1, 1) := by decide +kernel
theorem dX4_free_2 : decode cX4_free 2 = .ok (.invokevirtual 80, 3) := by decide +kernel
theorem dX4_free_5 : decode cX4_free 5 = .ok (.istore_n 2, 1) := by decide +kernel
theorem dX4_free_6 : decode cX4_free 6 = .ok (.iload_n 2, 1) := by decide +kernel
theorem dX4_free_7 : decode cX4_free 7 = .ok (.ifCond .eq 5, 3) := by decide +kernel
theorem dX4_free_10 : decode cX4_free 10 = .ok (.iload_n 2, 1) := by decide +kernel
theorem dX4_free_11 : decode cX4_free 11 = .ok (.ireturn, 1) := by decide +kernel
theorem dX4_free_12 : decode cX4_free 12 = .ok (.aload_n 0, 1) := by decide +kernel
theorem dX4_free_13 : decode cX4_free 13 = .ok (.getfield 21, 3) := by decide +kernel
theorem dX4_free_16 : decode cX4_free 16 = .ok (.invokevirtual 57, 3) := by decide +kernel
theorem dX4_free_19 : decode cX4_free 19 = .ok (.aload_n 0, 1) := by decide +kernel
theorem dX4_free_20 : decode cX4_free 20 = .ok (.iload_n 1, 1) := by decide +kernel
theorem dX4_free_21 : decode cX4_free 21 = .ok (.iconst 1, 1) := by decide +kernel
theorem dX4_free_22 : decode cX4_free 22 = .ok (.isub, 1) := by decide +kernel
theorem dX4_free_23 : decode cX4_free 23 = .ok (.invokevirtual 83, 3) := by decide +kernel
theorem dX4_free_26 : decode cX4_free 26 = .ok (.ireturn, 1) := by decide +kernel
theorem dX4_resize_0 : decode cX4_resize 0 = .ok (.aload_n 0, 1) := by decide +kernel
theorem dX4_resize_1 : decode cX4_resize 1 = .ok (.iload_n 1, 1) := by decide +kernel
theorem dX4_resize_2 : decode cX4_resize 2 = .ok (.invokevirtual 80, 3) := by decide +kernel
theorem dX4_resize_5 : decode cX4_resize 5 = .ok (.istore_n 3, 1) := by decide +kernel
theorem dX4_resize_6 : decode cX4_resize 6 = .ok (.iload_n 3, 1) := by decide +kernel
theorem dX4_resize_7 : decode cX4_resize 7 = .ok (.ifCond .eq 5, 3) := by decide +kernel
theorem dX4_resize_10 : decode cX4_resize 10 = .ok (.iload_n 3, 1) := by decide +kernel
theorem dX4_resize_11 : decode cX4_resize 11 = .ok (.ireturn, 1) := by decide +kernel
theorem dX4_resize_12 : decode cX4_resize 12 = .ok (.iload_n 2, 1) := by decide +kernel
theorem dX4_resize_13 : decode cX4_resize 13 = .ok (.invokestatic 38, 3) := by decide +kernel
theorem dX4_resize_16 : decode cX4_resize 16 = .ok (.ifCond .ne 6, 3) := by decide +kernel
theorem dX4_resize_19 : decode cX4_resize 19 = .ok (.bipush (-2), 2) := by decide +kernel
theorem dX4_resize_21 : decode cX4_resize 21 = .ok (.ireturn, 1) := by decide +kernel
theorem dX4_resize_22 : decode cX4_resize 22 = .ok (.iload_n 1, 1) := by decide +kernel
theorem dX4_resize_23 : decode cX4_resize 23 = .ok (.iconst 1, 1) := by decide +kernel
theorem dX4_resize_24 : decode cX4_resize 24 = .ok (.isub, 1) := by decide +kernel
theorem dX4_resize_25 : decode cX4_resize 25 = .ok (.istore 4, 2) := by decide +kernel
theorem dX4_resize_27 : decode cX4_resize 27 = .ok (.iload_n 2, 1) := by decide +kernel
theorem dX4_resize_28 : decode cX4_resize 28 = .ok (.invokestatic 46, 3) := by decide +kernel
theorem dX4_resize_31 : decode cX4_resize 31 = .ok (.istore 5, 2) := by decide +kernel
theorem dX4_resize_33 : decode cX4_resize 33 = .ok (.iload 5, 2) := by decide +kernel
theorem dX4_resize_35 : decode cX4_resize 35 = .ok (.aload_n 0, 1) := by decide +kernel
theorem dX4_resize_36 : decode cX4_resize 36 = .ok (.iload 4, 2) := by decide +kernel
theorem dX4_resize_38 : decode cX4_resize 38 = .ok (.invokevirtual 86, 3) := by decide +kernel
theorem dX4_resize_41 : decode cX4_resize 41 = .ok (.if_icmp .gt 40, 3) := by decide +kernel
theorem dX4_resize_44 : decode cX4_resize 44 = .ok (.aload_n 0, 1) := by decide +kernel
theorem dX4_resize_45 : decode cX4_resize 45 = .ok (.getfield 21, 3) := by decide +kernel
theorem dX4_resize_48 : decode cX4_resize 48 = .ok (.invokevirtual 57, 3) := by decide +kernel
theorem dX4_resize_51 : decode cX4_resize 51 = .ok (.iload 5, 2) := by decide +kernel
theorem dX4_resize_53 : decode cX4_resize 53 = .ok (.aload_n 0, 1) := by decide +kernel
theorem dX4_resize_54 : decode cX4_resize 54 = .ok (.getfield 12, 3) := by decide +kernel
theorem dX4_resize_57 : decode cX4_resize 57 = .ok (.iload 4, 2) := by decide +kernel
theorem dX4_resize_59 : decode cX4_resize 59 = .ok (.invokevirtual 89, 3) := by decide +kernel
theorem dX4_resize_62 : decode cX4_resize 62 = .ok (.if_icmp .le 9, 3) := by decide +kernel
theorem dX4_resize_65 : decode cX4_resize 65 = .ok (.aload_n 0, 1) := by decide +kernel
theorem dX4_resize_66 : decode cX4_resize 66 = .ok (.iload 4, 2) := by decide +kernel
theorem dX4_resize_68 : decode cX4_resize 68 = .ok (.invokevirtual 92, 3) := by decide +kernel
theorem dX4_resize_71 : decode cX4_resize 71 = .ok (.aload_n 0, 1) := by decide +kernel
theorem dX4_resize_72 : decode cX4_resize 72 = .ok (.iload 4, 2) := by decide +kernel
theorem dX4_resize_74 : decode cX4_resize 74 = .ok (.iload 5, 2) := by decide +kernel
theorem dX4_resize_76 : decode cX4_resize 76 = .ok (.invokevirtual 63, 3) := by decide +kernel
theorem dX4_resize_79 : decode cX4_resize 79 = .ok (.iload_n 1, 1) := by decide +kernel
theorem dX4_resize_80 : decode cX4_resize 80 = .ok (.ireturn, 1) := by decide +kernel
theorem dX4_resize_81 : decode cX4_resize 81 = .ok (.aload_n 0, 1) := by decide +kernel
theorem dX4_resize_82 : decode cX4_resize 82 = .ok (.getfield 21, 3) := by decide +kernel
theorem dX4_resize_85 : decode cX4_resize 85 = .ok (.iload 5, 2) := by decide +kernel
theorem dX4_resize_87 : decode cX4_resize 87 = .ok (.invokevirtual 50, 3) := by decide +kernel
theorem dX4_resize_90 : decode cX4_resize 90 = .ok (.istore 6, 2) := by decide +kernel
theorem dX4_resize_92 : decode cX4_resize 92 = .ok (.iload 6, 2) := by decide +kernel
theorem dX4_resize_94 : decode cX4_resize 94 = .ok (.iconst (-1), 1) := by decide +kernel
theorem dX4_resize_95 : decode cX4_resize 95 = .ok (.if_icmp .ne 8, 3) := by decide +kernel
theorem dX4_resize_98 : decode cX4_resize 98 = .ok (.aload_n 0, 1) := by decide +kernel
theorem dX4_resize_99 : decode cX4_resize 99 = .ok (.invokevirtual 53, 3) := by decide +kernel
theorem dX4_resize_102 : decode cX4_resize 102 = .ok (.ireturn, 1) := by decide +kernel
theorem dX4_resize_103 : decode cX4_resize 103 = .ok (.aload_n 0, 1) := by decide +kernel
theorem dX4_resize_104 : decode cX4_resize 104 = .ok (.getfield 21, 3) := by decide +kernel
theorem dX4_resize_107 : decode cX4_resize 107 = .ok (.invokevirtual 57, 3) := by decide +kernel
theorem dX4_resize_110 : decode cX4_resize 110 = .ok (.aload_n 0, 1) := by decide +kernel
theorem dX4_resize_111 : decode cX4_resize 111 = .ok (.iload 6, 2) := by decide +kernel
theorem dX4_resize_113 : decode cX4_resize 113 = .ok (.invokevirtual 60, 3) := by decide +kernel
theorem dX4_resize_116 : decode cX4_resize 116 = .ok (.aload_n 0, 1) := by decide +kernel
theorem dX4_resize_117 : decode cX4_resize 117 = .ok (.iload 6, 2) := by decide +kernel
theorem dX4_resize_119 : decode cX4_resize 119 = .ok (.iload 5, 2) := by decide +kernel
theorem dX4_resize_121 : decode cX4_resize 121 = .ok (.invokevirtual 63, 3) := by decide +kernel
theorem dX4_resize_124 : decode cX4_resize 124 = .ok (.aload_n 0, 1) := by decide +kernel
theorem dX4_resize_125 : decode cX4_resize 125 = .ok (.iload 4, 2) := by decide +kernel
theorem dX4_resize_127 : decode cX4_resize 127 = .ok (.iload 6, 2) := by decide +kernel
theorem dX4_resize_129 : decode cX4_resize 129 = .ok (.invokevirtual 95, 3) := by decide +kernel
theorem dX4_resize_132 : decode cX4_resize 132 = .ok (.aload_n 0, 1) := by decide +kernel
theorem dX4_resize_133 : decode cX4_resize 133 = .ok (.iload 4, 2) := by decide +kernel
theorem dX4_resize_135 : decode cX4_resize 135 = .ok (.invokevirtual 83, 3) := by decide +kernel
theorem dX4_resize_138 : decode cX4_resize 138 = .ok (.pop, 1) := by decide +kernel
theorem dX4_resize_139 : decode cX4_resize 139 = .ok (.iload 6, 2) := by decide +kernel
theorem dX4_resize_141 : decode cX4_resize 141 = .ok (.iconst 1, 1) := by decide +kernel
theorem dX4_resize_142 : decode cX4_resize 142 = .ok (.iadd, 1) := by decide +kernel
theorem dX4_resize_143 : decode cX4_resize 143 = .ok (.ireturn, 1) := by decide +kernel
theorem dX4_grow_0 : decode cX4_grow 0 = .ok (.iload_n 1, 1) := by decide +kernel
theorem dX4_grow_1 : decode cX4_grow 1 = .ok (.iconst 4, 1) := by decide +kernel
theorem dX4_grow_2 : decode cX4_grow 2 = .ok (.if_icmp .lt 10, 3) := by decide +kernel
theorem dX4_grow_5 : decode cX4_grow 5 = .ok (.iload_n 1, 1) := by decide +kernel
theorem dX4_grow_6 : decode cX4_grow 6 = .ok (.sipush 1024, 3) := by decide +kernel
theorem dX4_grow_9 : decode cX4_grow 9 = .ok (.if_icmp .le 6, 3) := by decide +kernel
theorem dX4_grow_12 : decode cX4_grow 12 = .ok (.bipush (-2), 2) := by decide +kernel
theorem dX4_grow_14 : decode cX4_grow 14 = .ok (.ireturn, 1) := by decide +kernel
theorem dX4_grow_15 : decode cX4_grow 15 = .ok (.aload_n 0, 1) := by decide +kernel
theorem dX4_grow_16 : decode cX4_grow 16 = .ok (.getfield 42, 3) := by decide +kernel
theorem dX4_grow_19 : decode cX4_grow 19 = .ok (.ifCond .eq 6, 3) := by decide +kernel
theorem dX4_grow_22 : decode cX4_grow 22 = .ok (.bipush (-3), 2) := by decide +kernel
theorem dX4_grow_24 : decode cX4_grow 24 = .ok (.ireturn, 1) := by decide +kernel
theorem dX4_grow_25 : decode cX4_grow 25 = .ok (.aload_n 0, 1) := by decide +kernel
theorem dX4_grow_26 : decode cX4_grow 26 = .ok (.getfield 12, 3) := by decide +kernel
theorem dX4_grow_29 : decode cX4_grow 29 = .ok (.getfield 98, 3) := by decide +kernel
theorem dX4_grow_32 : decode cX4_grow 32 = .ok (.istore_n 2, 1) := by decide +kernel
theorem dX4_grow_33 : decode cX4_grow 33 = .ok (.iload_n 2, 1) := by decide +kernel
theorem dX4_grow_34 : decode cX4_grow 34 = .ok (.iload_n 1, 1) := by decide +kernel
theorem dX4_grow_35 : decode cX4_grow 35 = .ok (.iadd, 1) := by decide +kernel
theorem dX4_grow_36 : decode cX4_grow 36 = .ok (.sipush 2048, 3) := by decide +kernel
theorem dX4_grow_39 : decode cX4_grow 39 = .ok (.if_icmp .le 6, 3) := by decide +kernel
theorem dX4_grow_42 : decode cX4_grow 42 = .ok (.bipush (-4), 2) := by decide +kernel
theorem dX4_grow_44 : decode cX4_grow 44 = .ok (.ireturn, 1) := by decide +kernel
theorem dX4_grow_45 : decode cX4_grow 45 = .ok (.aload_n 0, 1) := by decide +kernel
theorem dX4_grow_46 : decode cX4_grow 46 = .ok (.getfield 12, 3) := by decide +kernel
theorem dX4_grow_49 : decode cX4_grow 49 = .ok (.aload_n 0, 1) := by decide +kernel
theorem dX4_grow_50 : decode cX4_grow 50 = .ok (.invokevirtual 102, 3) := by decide +kernel
theorem dX4_grow_53 : decode cX4_grow 53 = .ok (.invokevirtual 105, 3) := by decide +kernel
theorem dX4_grow_56 : decode cX4_grow 56 = .ok (.istore_n 3, 1) := by decide +kernel
theorem dX4_grow_57 : decode cX4_grow 57 = .ok (.aload_n 0, 1) := by decide +kernel
theorem dX4_grow_58 : decode cX4_grow 58 = .ok (.getfield 21, 3) := by decide +kernel
theorem dX4_grow_61 : decode cX4_grow 61 = .ok (.invokevirtual 57, 3) := by decide +kernel
theorem dX4_grow_64 : decode cX4_grow 64 = .ok (.aload_n 0, 1) := by decide +kernel
theorem dX4_grow_65 : decode cX4_grow 65 = .ok (.getfield 12, 3) := by decide +kernel
theorem dX4_grow_68 : decode cX4_grow 68 = .ok (.iload_n 2, 1) := by decide +kernel
theorem dX4_grow_69 : decode cX4_grow 69 = .ok (.iload_n 1, 1) := by decide +kernel
theorem dX4_grow_70 : decode cX4_grow 70 = .ok (.iadd, 1) := by decide +kernel
theorem dX4_grow_71 : decode cX4_grow 71 = .ok (.putfield 98, 3) := by decide +kernel
theorem dX4_grow_74 : decode cX4_grow 74 = .ok (.aload_n 0, 1) := by decide +kernel
theorem dX4_grow_75 : decode cX4_grow 75 = .ok (.getfield 12, 3) := by decide +kernel
theorem dX4_grow_78 : decode cX4_grow 78 = .ok (.iload_n 2, 1) := by decide +kernel
theorem dX4_grow_79 : decode cX4_grow 79 = .ok (.iload_n 1, 1) := by decide +kernel
theorem dX4_grow_80 : decode cX4_grow 80 = .ok (.iconst 1, 1) := by decide +kernel
theorem dX4_grow_81 : decode cX4_grow 81 = .ok (.isub, 1) := by decide +kernel
theorem dX4_grow_82 : decode cX4_grow 82 = .ok (.iload_n 3, 1) := by decide +kernel
theorem dX4_grow_83 : decode cX4_grow 83 = .ok (.ifCond .eq 7, 3) := by decide +kernel
theorem dX4_grow_86 : decode cX4_grow 86 = .ok (.iconst 2, 1) := by decide +kernel
theorem dX4_grow_87 : decode cX4_grow 87 = .ok (.goto 4, 3) := by decide +kernel
theorem dX4_grow_90 : decode cX4_grow 90 = .ok (.iconst 0, 1) := by decide +kernel
theorem dX4_grow_91 : decode cX4_grow 91 = .ok (.invokevirtual 108, 3) := by decide +kernel
theorem dX4_grow_94 : decode cX4_grow 94 = .ok (.aload_n 0, 1) := by decide +kernel
theorem dX4_grow_95 : decode cX4_grow 95 = .ok (.iload_n 2, 1) := by decide +kernel
theorem dX4_grow_96 : decode cX4_grow 96 = .ok (.invokevirtual 83, 3) := by decide +kernel
theorem dX4_grow_99 : decode cX4_grow 99 = .ok (.pop, 1) := by decide +kernel
theorem dX4_grow_100 : decode cX4_grow 100 = .ok (.aload_n 0, 1) := by decide +kernel
theorem dX4_grow_101 : decode cX4_grow 101 = .ok (.getfield 12, 3) := by decide +kernel
theorem dX4_grow_104 : decode cX4_grow 104 = .ok (.getfield 98, 3) := by decide +kernel
theorem dX4_grow_107 : decode cX4_grow 107 = .ok (.ireturn, 1) := by decide +kernel
theorem dX4_size_0 : decode cX4_size 0 = .ok (.aload_n 0, 1) := by decide +kernel
theorem dX4_size_1 : decode cX4_size 1 = .ok (.iload_n 1, 1) := by decide +kernel
theorem dX4_size_2 : decode cX4_size 2 = .ok (.invokevirtual 80, 3) := by decide +kernel
theorem dX4_size_5 : decode cX4_size 5 = .ok (.istore_n 2, 1) := by decide +kernel
theorem dX4_size_6 : decode cX4_size 6 = .ok (.iload_n 2, 1) := by decide +kernel
theorem dX4_size_7 : decode cX4_size 7 = .ok (.ifCond .eq 7, 3) := by decide +kernel
theorem dX4_size_10 : decode cX4_size 10 = .ok (.iload_n 2, 1) := by decide +kernel
theorem dX4_size_11 : decode cX4_size 11 = .ok (.goto 13, 3) := by decide +kernel
theorem dX4_size_14 : decode cX4_size 14 = .ok (.aload_n 0, 1) := by decide +kernel
theorem dX4_size_15 : decode cX4_size 15 = .ok (.getfield 12, 3) := by decide +kernel
theorem dX4_size_18 : decode cX4_size 18 = .ok (.iload_n 1, 1) := by decide +kernel
theorem dX4_size_19 : decode cX4_size 19 = .ok (.iconst 1, 1) := by decide +kernel
theorem dX4_size_20 : decode cX4_size 20 = .ok (.isub, 1) := by decide +kernel
theorem dX4_size_21 : decode cX4_size 21 = .ok (.invokevirtual 89, 3) := by decide +kernel
theorem dX4_size_24 : decode cX4_size 24 = .ok (.ireturn, 1) := by decide +kernel
theorem dX4_put_0 : decode cX4_put 0 = .ok (.aload_n 0, 1) := by decide +kernel
theorem dX4_put_1 : decode cX4_put 1 = .ok (.iload_n 1, 1) := by decide +kernel
theorem dX4_put_2 : decode cX4_put 2 = .ok (.invokevirtual 80, 3) := by decide +kernel
theorem dX4_put_5 : decode cX4_put 5 = .ok (.istore 5, 2) := by decide +kernel
theorem dX4_put_7 : decode cX4_put 7 = .ok (.iload 5, 2) := by decide +kernel
theorem dX4_put_9 : decode cX4_put 9 = .ok (.ifCond .eq 6, 3) := by decide +kernel
theorem dX4_put_12 : decode cX4_put 12 = .ok (.iload 5, 2) := by decide +kernel
theorem dX4_put_14 : decode cX4_put 14 = .ok (.ireturn, 1) := by decide +kernel
theorem dX4_put_15 : decode cX4_put 15 = .ok (.iload_n 2, 1) := by decide +kernel
theorem dX4_put_16 : decode cX4_put 16 = .ok (.ifCond .lt 17, 3) := by decide +kernel
theorem dX4_put_19 : decode cX4_put 19 = .ok (.iload_n 2, 1) := by decide +kernel
theorem dX4_put_20 : decode cX4_put 20 = .ok (.aload_n 0, 1) := by decide +kernel
theorem dX4_put_21 : decode cX4_put 21 = .ok (.getfield 12, 3) := by decide +kernel
theorem dX4_put_24 : decode cX4_put 24 = .ok (.iload_n 1, 1) := by decide +kernel
theorem dX4_put_25 : decode cX4_put 25 = .ok (.iconst 1, 1) := by decide +kernel
theorem dX4_put_26 : decode cX4_put 26 = .ok (.isub, 1) := by decide +kernel
theorem dX4_put_27 : decode cX4_put 27 = .ok (.invokevirtual 89, 3) := by decide +kernel
theorem dX4_put_30 : decode cX4_put 30 = .ok (.if_icmp .lt 6, 3) := by decide +kernel
theorem dX4_put_33 : decode cX4_put 33 = .ok (.bipush (-2), 2) := by decide +kernel
theorem dX4_put_35 : decode cX4_put 35 = .ok (.ireturn, 1) := by decide +kernel
theorem dX4_put_36 : decode cX4_put 36 = .ok (.aload_n 0, 1) := by decide +kernel
theorem dX4_put_37 : decode cX4_put 37 = .ok (.getfield 12, 3) := by decide +kernel
theorem dX4_put_40 : decode cX4_put 40 = .ok (.iload_n 1, 1) := by decide +kernel
theorem dX4_put_41 : decode cX4_put 41 = .ok (.iload_n 2, 1) := by decide +kernel
theorem dX4_put_42 : decode cX4_put 42 = .ok (.iadd, 1) := by decide +kernel
theorem dX4_put_43 : decode cX4_put 43 = .ok (.lload_n 3, 1) := by decide +kernel
theorem dX4_put_44 : decode cX4_put 44 = .ok (.invokevirtual 112, 3) := by decide +kernel
theorem dX4_put_47 : decode cX4_put 47 = .ok (.iconst 1, 1) := by decide +kernel
theorem dX4_put_48 : decode cX4_put 48 = .ok (.ireturn, 1) := by decide +kernel
theorem dX4_word_0 : decode cX4_word 0 = .ok (.aload_n 0, 1) := by decide +kernel
theorem dX4_word_1 : decode cX4_word 1 = .ok (.getfield 12, 3) := by decide +kernel
theorem dX4_word_4 : decode cX4_word 4 = .ok (.iload_n 1, 1) := by decide +kernel
theorem dX4_word_5 : decode cX4_word 5 = .ok (.invokevirtual 116, 3) := by decide +kernel
theorem dX4_word_8 : decode cX4_word 8 = .ok (.lreturn, 1) := by decide +kernel
theorem dX4_spoil_0 : decode cX4_spoil 0 = .ok (.aload_n 0, 1) := by decide +kernel
theorem dX4_spoil_1 : decode cX4_spoil 1 = .ok (.getfield 12, 3) := by decide +kernel
theorem dX4_spoil_4 : decode cX4_spoil 4 = .ok (.iload_n 1, 1) := by decide +kernel
theorem dX4_spoil_5 : decode cX4_spoil 5 = .ok (.invokevirtual 120, 3) := by decide +kernel
theorem dX4_spoil_8 : decode cX4_spoil 8 = .ok (.ifCond .ne 6, 3) := by decide +kernel
theorem dX4_spoil_11 : decode cX4_spoil 11 = .ok (.bipush (-2), 2) := by decide +kernel
theorem dX4_spoil_13 : decode cX4_spoil 13 = .ok (.ireturn, 1) := by decide +kernel
theorem dX4_spoil_14 : decode cX4_spoil 14 = .ok (.aload_n 0, 1) := by decide +kernel
theorem dX4_spoil_15 : decode cX4_spoil 15 = .ok (.getfield 12, 3) := by decide +kernel
theorem dX4_spoil_18 : decode cX4_spoil 18 = .ok (.iload_n 1, 1) := by decide +kernel
theorem dX4_spoil_19 : decode cX4_spoil 19 = .ok (.lload_n 2, 1) := by decide +kernel
theorem dX4_spoil_20 : decode cX4_spoil 20 = .ok (.invokevirtual 112, 3) := by decide +kernel
theorem dX4_spoil_23 : decode cX4_spoil 23 = .ok (.aload_n 0, 1) := by decide +kernel
theorem dX4_spoil_24 : decode cX4_spoil 24 = .ok (.iconst 1, 1) := by decide +kernel
theorem dX4_spoil_25 : decode cX4_spoil 25 = .ok (.putfield 42, 3) := by decide +kernel
theorem dX4_spoil_28 : decode cX4_spoil 28 = .ok (.iconst 1, 1) := by decide +kernel
theorem dX4_spoil_29 : decode cX4_spoil 29 = .ok (.ireturn, 1) := by decide +kernel
theorem dX4_check_0 : decode cX4_check 0 = .ok (.aload_n 0, 1) := by decide +kernel
theorem dX4_check_1 : decode cX4_check 1 = .ok (.getfield 30, 3) := by decide +kernel
theorem dX4_check_4 : decode cX4_check 4 = .ok (.invokevirtual 123, 3) := by decide +kernel
theorem dX4_check_7 : decode cX4_check 7 = .ok (.istore_n 1, 1) := by decide +kernel
theorem dX4_check_8 : decode cX4_check 8 = .ok (.iload_n 1, 1) := by decide +kernel
theorem dX4_check_9 : decode cX4_check 9 = .ok (.ifCond .ne 8, 3) := by decide +kernel
theorem dX4_check_12 : decode cX4_check 12 = .ok (.aload_n 0, 1) := by decide +kernel
theorem dX4_check_13 : decode cX4_check 13 = .ok (.iconst 0, 1) := by decide +kernel
theorem dX4_check_14 : decode cX4_check 14 = .ok (.putfield 42, 3) := by decide +kernel
theorem dX4_check_17 : decode cX4_check 17 = .ok (.iload_n 1, 1) := by decide +kernel
theorem dX4_check_18 : decode cX4_check 18 = .ok (.ireturn, 1) := by decide +kernel
theorem dX4_where_0 : decode cX4_where 0 = .ok (.aload_n 0, 1) := by decide +kernel
theorem dX4_where_1 : decode cX4_where 1 = .ok (.getfield 30, 3) := by decide +kernel
theorem dX4_where_4 : decode cX4_where 4 = .ok (.getfield 126, 3) := by decide +kernel
theorem dX4_where_7 : decode cX4_where 7 = .ok (.ireturn, 1) := by decide +kernel
theorem dX4_classOf_0 : decode cX4_classOf 0 = .ok (.iload_n 1, 1) := by decide +kernel
theorem dX4_classOf_1 : decode cX4_classOf 1 = .ok (.iconst 1, 1) := by decide +kernel
theorem dX4_classOf_2 : decode cX4_classOf 2 = .ok (.if_icmp .lt 10, 3) := by decide +kernel
theorem dX4_classOf_5 : decode cX4_classOf 5 = .ok (.iload_n 1, 1) := by decide +kernel
theorem dX4_classOf_6 : decode cX4_classOf 6 = .ok (.sipush 4095, 3) := by decide +kernel
theorem dX4_classOf_9 : decode cX4_classOf 9 = .ok (.if_icmp .le 6, 3) := by decide +kernel
theorem dX4_classOf_12 : decode cX4_classOf 12 = .ok (.bipush (-2), 2) := by decide +kernel
theorem dX4_classOf_14 : decode cX4_classOf 14 = .ok (.ireturn, 1) := by decide +kernel
theorem dX4_classOf_15 : decode cX4_classOf 15 = .ok (.iload_n 2, 1) := by decide +kernel
theorem dX4_classOf_16 : decode cX4_classOf 16 = .ok (.ifCond .eq 10, 3) := by decide +kernel
theorem dX4_classOf_19 : decode cX4_classOf 19 = .ok (.iload_n 1, 1) := by decide +kernel
theorem dX4_classOf_20 : decode cX4_classOf 20 = .ok (.invokestatic 129, 3) := by decide +kernel
theorem dX4_classOf_23 : decode cX4_classOf 23 = .ok (.goto 7, 3) := by decide +kernel
theorem dX4_classOf_26 : decode cX4_classOf 26 = .ok (.iload_n 1, 1) := by decide +kernel
theorem dX4_classOf_27 : decode cX4_classOf 27 = .ok (.invokestatic 134, 3) := by decide +kernel
theorem dX4_classOf_30 : decode cX4_classOf 30 = .ok (.ireturn, 1) := by decide +kernel
theorem dX4_listed_0 : decode cX4_listed 0 = .ok (.iload_n 1, 1) := by decide +kernel
theorem dX4_listed_1 : decode cX4_listed 1 = .ok (.ifCond .lt 13, 3) := by decide +kernel
theorem dX4_listed_4 : decode cX4_listed 4 = .ok (.iload_n 1, 1) := by decide +kernel
theorem dX4_listed_5 : decode cX4_listed 5 = .ok (.bipush 72, 2) := by decide +kernel
theorem dX4_listed_7 : decode cX4_listed 7 = .ok (.if_icmp .ge 7, 3) := by decide +kernel
theorem dX4_listed_10 : decode cX4_listed 10 = .ok (.iload_n 2, 1) := by decide +kernel
theorem dX4_listed_11 : decode cX4_listed 11 = .ok (.ifCond .ge 6, 3) := by decide +kernel
theorem dX4_listed_14 : decode cX4_listed 14 = .ok (.bipush (-2), 2) := by decide +kernel
theorem dX4_listed_16 : decode cX4_listed 16 = .ok (.ireturn, 1) := by decide +kernel
theorem dX4_listed_17 : decode cX4_listed 17 = .ok (.aload_n 0, 1) := by decide +kernel
theorem dX4_listed_18 : decode cX4_listed 18 = .ok (.getfield 42, 3) := by decide +kernel
theorem dX4_listed_21 : decode cX4_listed 21 = .ok (.ifCond .eq 6, 3) := by decide +kernel
theorem dX4_listed_24 : decode cX4_listed 24 = .ok (.bipush (-3), 2) := by decide +kernel
theorem dX4_listed_26 : decode cX4_listed 26 = .ok (.ireturn, 1) := by decide +kernel
theorem dX4_listed_27 : decode cX4_listed 27 = .ok (.aload_n 0, 1) := by decide +kernel
theorem dX4_listed_28 : decode cX4_listed 28 = .ok (.getfield 21, 3) := by decide +kernel
theorem dX4_listed_31 : decode cX4_listed 31 = .ok (.iload_n 1, 1) := by decide +kernel
theorem dX4_listed_32 : decode cX4_listed 32 = .ok (.iload_n 2, 1) := by decide +kernel
theorem dX4_listed_33 : decode cX4_listed 33 = .ok (.invokevirtual 137, 3) := by decide +kernel
theorem dX4_listed_36 : decode cX4_listed 36 = .ok (.ireturn, 1) := by decide +kernel
theorem dX4_bits_0 : decode cX4_bits 0 = .ok (.iload_n 1, 1) := by decide +kernel
theorem dX4_bits_1 : decode cX4_bits 1 = .ok (.ifCond .lt 9, 3) := by decide +kernel
theorem dX4_bits_4 : decode cX4_bits 4 = .ok (.iload_n 1, 1) := by decide +kernel
theorem dX4_bits_5 : decode cX4_bits 5 = .ok (.bipush 9, 2) := by decide +kernel
theorem dX4_bits_7 : decode cX4_bits 7 = .ok (.if_icmp .le 6, 3) := by decide +kernel
theorem dX4_bits_10 : decode cX4_bits 10 = .ok (.bipush (-2), 2) := by decide +kernel
theorem dX4_bits_12 : decode cX4_bits 12 = .ok (.ireturn, 1) := by decide +kernel
theorem dX4_bits_13 : decode cX4_bits 13 = .ok (.iload_n 1, 1) := by decide +kernel
theorem dX4_bits_14 : decode cX4_bits 14 = .ok (.bipush 9, 2) := by decide +kernel
theorem dX4_bits_16 : decode cX4_bits 16 = .ok (.if_icmp .ne 13, 3) := by decide +kernel
theorem dX4_bits_19 : decode cX4_bits 19 = .ok (.aload_n 0, 1) := by decide +kernel
theorem dX4_bits_20 : decode cX4_bits 20 = .ok (.getfield 21, 3) := by decide +kernel
theorem dX4_bits_23 : decode cX4_bits 23 = .ok (.invokevirtual 140, 3) := by decide +kernel
theorem dX4_bits_26 : decode cX4_bits 26 = .ok (.goto 11, 3) := by decide +kernel
theorem dX4_bits_29 : decode cX4_bits 29 = .ok (.aload_n 0, 1) := by decide +kernel
theorem dX4_bits_30 : decode cX4_bits 30 = .ok (.getfield 21, 3) := by decide +kernel
theorem dX4_bits_33 : decode cX4_bits 33 = .ok (.iload_n 1, 1) := by decide +kernel
theorem dX4_bits_34 : decode cX4_bits 34 = .ok (.invokevirtual 143, 3) := by decide +kernel
theorem dX4_bits_37 : decode cX4_bits 37 = .ok (.ireturn, 1) := by decide +kernel
theorem dX4_block_0 : decode cX4_block 0 = .ok (.iload_n 1, 1) := by decide +kernel
theorem dX4_block_1 : decode cX4_block 1 = .ok (.ifCond .lt 12, 3) := by decide +kernel
theorem dX4_block_4 : decode cX4_block 4 = .ok (.iload_n 2, 1) := by decide +kernel
theorem dX4_block_5 : decode cX4_block 5 = .ok (.ifCond .lt 8, 3) := by decide +kernel
theorem dX4_block_8 : decode cX4_block 8 = .ok (.iload_n 2, 1) := by decide +kernel
theorem dX4_block_9 : decode cX4_block 9 = .ok (.iconst 2, 1) := by decide +kernel
theorem dX4_block_10 : decode cX4_block 10 = .ok (.if_icmp .le 6, 3) := by decide +kernel
theorem dX4_block_13 : decode cX4_block 13 = .ok (.bipush (-2), 2) := by decide +kernel
theorem dX4_block_15 : decode cX4_block 15 = .ok (.ireturn, 1) := by decide +kernel
theorem dX4_block_16 : decode cX4_block 16 = .ok (.aload_n 0, 1) := by decide +kernel
theorem dX4_block_17 : decode cX4_block 17 = .ok (.getfield 42, 3) := by decide +kernel
theorem dX4_block_20 : decode cX4_block 20 = .ok (.ifCond .eq 6, 3) := by decide +kernel
theorem dX4_block_23 : decode cX4_block 23 = .ok (.bipush (-3), 2) := by decide +kernel
theorem dX4_block_25 : decode cX4_block 25 = .ok (.ireturn, 1) := by decide +kernel
theorem dX4_block_26 : decode cX4_block 26 = .ok (.aload_n 0, 1) := by decide +kernel
theorem dX4_block_27 : decode cX4_block 27 = .ok (.iload_n 1, 1) := by decide +kernel
theorem dX4_block_28 : decode cX4_block 28 = .ok (.invokevirtual 146, 3) := by decide +kernel
theorem dX4_block_31 : decode cX4_block 31 = .ok (.istore_n 3, 1) := by decide +kernel
theorem dX4_block_32 : decode cX4_block 32 = .ok (.iload_n 3, 1) := by decide +kernel
theorem dX4_block_33 : decode cX4_block 33 = .ok (.iconst (-1), 1) := by decide +kernel
theorem dX4_block_34 : decode cX4_block 34 = .ok (.if_icmp .ne 5, 3) := by decide +kernel
theorem dX4_block_37 : decode cX4_block 37 = .ok (.iconst (-1), 1) := by decide +kernel
theorem dX4_block_38 : decode cX4_block 38 = .ok (.ireturn, 1) := by decide +kernel
theorem dX4_block_39 : decode cX4_block 39 = .ok (.iload_n 2, 1) := by decide +kernel
theorem dX4_block_40 : decode cX4_block 40 = .ok (.lookupswitch 41 #[(0, 28), (1, 32)], 28) := by decide +kernel
theorem dX4_block_68 : decode cX4_block 68 = .ok (.iload_n 3, 1) := by decide +kernel
theorem dX4_block_69 : decode cX4_block 69 = .ok (.iconst 1, 1) := by decide +kernel
theorem dX4_block_70 : decode cX4_block 70 = .ok (.iadd, 1) := by decide +kernel
theorem dX4_block_71 : decode cX4_block 71 = .ok (.ireturn, 1) := by decide +kernel
theorem dX4_block_72 : decode cX4_block 72 = .ok (.aload_n 0, 1) := by decide +kernel
theorem dX4_block_73 : decode cX4_block 73 = .ok (.getfield 12, 3) := by decide +kernel
theorem dX4_block_76 : decode cX4_block 76 = .ok (.iload_n 3, 1) := by decide +kernel
theorem dX4_block_77 : decode cX4_block 77 = .ok (.invokevirtual 89, 3) := by decide +kernel
theorem dX4_block_80 : decode cX4_block 80 = .ok (.ireturn, 1) := by decide +kernel
theorem dX4_block_81 : decode cX4_block 81 = .ok (.aload_n 0, 1) := by decide +kernel
theorem dX4_block_82 : decode cX4_block 82 = .ok (.getfield 12, 3) := by decide +kernel
theorem dX4_block_85 : decode cX4_block 85 = .ok (.iload_n 3, 1) := by decide +kernel
theorem dX4_block_86 : decode cX4_block 86 = .ok (.invokevirtual 105, 3) := by decide +kernel
theorem dX4_block_89 : decode cX4_block 89 = .ok (.ifCond .eq 7, 3) := by decide +kernel
theorem dX4_block_92 : decode cX4_block 92 = .ok (.iconst 1, 1) := by decide +kernel
theorem dX4_block_93 : decode cX4_block 93 = .ok (.goto 4, 3) := by decide +kernel
theorem dX4_block_96 : decode cX4_block 96 = .ok (.iconst 0, 1) := by decide +kernel
theorem dX4_block_97 : decode cX4_block 97 = .ok (.ireturn, 1) := by decide +kernel
theorem dX4_found_0 : decode cX4_found 0 = .ok (.iload_n 1, 1) := by decide +kernel
theorem dX4_found_1 : decode cX4_found 1 = .ok (.invokestatic 38, 3) := by decide +kernel
theorem dX4_found_4 : decode cX4_found 4 = .ok (.ifCond .ne 6, 3) := by decide +kernel
theorem dX4_found_7 : decode cX4_found 7 = .ok (.bipush (-2), 2) := by decide +kernel
theorem dX4_found_9 : decode cX4_found 9 = .ok (.ireturn, 1) := by decide +kernel
theorem dX4_found_10 : decode cX4_found 10 = .ok (.aload_n 0, 1) := by decide +kernel
theorem dX4_found_11 : decode cX4_found 11 = .ok (.getfield 42, 3) := by decide +kernel
theorem dX4_found_14 : decode cX4_found 14 = .ok (.ifCond .eq 6, 3) := by decide +kernel
theorem dX4_found_17 : decode cX4_found 17 = .ok (.bipush (-3), 2) := by decide +kernel
theorem dX4_found_19 : decode cX4_found 19 = .ok (.ireturn, 1) := by decide +kernel
theorem dX4_found_20 : decode cX4_found 20 = .ok (.aload_n 0, 1) := by decide +kernel
theorem dX4_found_21 : decode cX4_found 21 = .ok (.getfield 21, 3) := by decide +kernel
theorem dX4_found_24 : decode cX4_found 24 = .ok (.iload_n 1, 1) := by decide +kernel
theorem dX4_found_25 : decode cX4_found 25 = .ok (.invokestatic 46, 3) := by decide +kernel
theorem dX4_found_28 : decode cX4_found 28 = .ok (.invokevirtual 50, 3) := by decide +kernel
theorem dX4_found_31 : decode cX4_found 31 = .ok (.istore_n 2, 1) := by decide +kernel
theorem dX4_found_32 : decode cX4_found 32 = .ok (.iload_n 2, 1) := by decide +kernel
theorem dX4_found_33 : decode cX4_found 33 = .ok (.iconst (-1), 1) := by decide +kernel
theorem dX4_found_34 : decode cX4_found 34 = .ok (.if_icmp .ne 7, 3) := by decide +kernel
theorem dX4_found_37 : decode cX4_found 37 = .ok (.iconst (-1), 1) := by decide +kernel
theorem dX4_found_38 : decode cX4_found 38 = .ok (.goto 6, 3) := by decide +kernel
theorem dX4_found_41 : decode cX4_found 41 = .ok (.iload_n 2, 1) := by decide +kernel
theorem dX4_found_42 : decode cX4_found 42 = .ok (.iconst 1, 1) := by decide +kernel
theorem dX4_found_43 : decode cX4_found 43 = .ok (.iadd, 1) := by decide +kernel
theorem dX4_found_44 : decode cX4_found 44 = .ok (.ireturn, 1) := by decide +kernel
theorem dX4_count_0 : decode cX4_count 0 = .ok (.iload_n 1, 1) := by decide +kernel
theorem dX4_count_1 : decode cX4_count 1 = .ok (.tableswitch 174 0 8 #[51, 59, 67, 80, 85, 103, 121, 139, 157], 51) := by decide +kernel
theorem dX4_count_52 : decode cX4_count 52 = .ok (.aload_n 0, 1) := by decide +kernel
theorem dX4_count_53 : decode cX4_count 53 = .ok (.getfield 12, 3) := by decide +kernel
theorem dX4_count_56 : decode cX4_count 56 = .ok (.getfield 98, 3) := by decide +kernel
theorem dX4_count_59 : decode cX4_count 59 = .ok (.ireturn, 1) := by decide +kernel
theorem dX4_count_60 : decode cX4_count 60 = .ok (.aload_n 0, 1) := by decide +kernel
theorem dX4_count_61 : decode cX4_count 61 = .ok (.getfield 21, 3) := by decide +kernel
theorem dX4_count_64 : decode cX4_count 64 = .ok (.getfield 149, 3) := by decide +kernel
theorem dX4_count_67 : decode cX4_count 67 = .ok (.ireturn, 1) := by decide +kernel
theorem dX4_count_68 : decode cX4_count 68 = .ok (.aload_n 0, 1) := by decide +kernel
theorem dX4_count_69 : decode cX4_count 69 = .ok (.getfield 42, 3) := by decide +kernel
theorem dX4_count_72 : decode cX4_count 72 = .ok (.ifCond .eq 7, 3) := by decide +kernel
theorem dX4_count_75 : decode cX4_count 75 = .ok (.iconst 1, 1) := by decide +kernel
theorem dX4_count_76 : decode cX4_count 76 = .ok (.goto 4, 3) := by decide +kernel
theorem dX4_count_79 : decode cX4_count 79 = .ok (.iconst 0, 1) := by decide +kernel
theorem dX4_count_80 : decode cX4_count 80 = .ok (.ireturn, 1) := by decide +kernel
theorem dX4_count_81 : decode cX4_count 81 = .ok (.aload_n 0, 1) := by decide +kernel
theorem dX4_count_82 : decode cX4_count 82 = .ok (.getfield 152, 3) := by decide +kernel
theorem dX4_count_85 : decode cX4_count 85 = .ok (.ireturn, 1) := by decide +kernel
theorem dX4_count_86 : decode cX4_count 86 = .ok (.aload_n 0, 1) := by decide +kernel
theorem dX4_count_87 : decode cX4_count 87 = .ok (.getfield 42, 3) := by decide +kernel
theorem dX4_count_90 : decode cX4_count 90 = .ok (.ifCond .eq 8, 3) := by decide +kernel
theorem dX4_count_93 : decode cX4_count 93 = .ok (.bipush (-3), 2) := by decide +kernel
theorem dX4_count_95 : decode cX4_count 95 = .ok (.goto 8, 3) := by decide +kernel
theorem dX4_count_98 : decode cX4_count 98 = .ok (.aload_n 0, 1) := by decide +kernel
theorem dX4_count_99 : decode cX4_count 99 = .ok (.iconst 0, 1) := by decide +kernel
theorem dX4_count_100 : decode cX4_count 100 = .ok (.invokevirtual 155, 3) := by decide +kernel
theorem dX4_count_103 : decode cX4_count 103 = .ok (.ireturn, 1) := by decide +kernel
theorem dX4_count_104 : decode cX4_count 104 = .ok (.aload_n 0, 1) := by decide +kernel
theorem dX4_count_105 : decode cX4_count 105 = .ok (.getfield 42, 3) := by decide +kernel
theorem dX4_count_108 : decode cX4_count 108 = .ok (.ifCond .eq 8, 3) := by decide +kernel
theorem dX4_count_111 : decode cX4_count 111 = .ok (.bipush (-3), 2) := by decide +kernel
theorem dX4_count_113 : decode cX4_count 113 = .ok (.goto 8, 3) := by decide +kernel
theorem dX4_count_116 : decode cX4_count 116 = .ok (.aload_n 0, 1) := by decide +kernel
theorem dX4_count_117 : decode cX4_count 117 = .ok (.iconst 1, 1) := by decide +kernel
theorem dX4_count_118 : decode cX4_count 118 = .ok (.invokevirtual 155, 3) := by decide +kernel
theorem dX4_count_121 : decode cX4_count 121 = .ok (.ireturn, 1) := by decide +kernel
theorem dX4_count_122 : decode cX4_count 122 = .ok (.aload_n 0, 1) := by decide +kernel
theorem dX4_count_123 : decode cX4_count 123 = .ok (.getfield 42, 3) := by decide +kernel
theorem dX4_count_126 : decode cX4_count 126 = .ok (.ifCond .eq 8, 3) := by decide +kernel
theorem dX4_count_129 : decode cX4_count 129 = .ok (.bipush (-3), 2) := by decide +kernel
theorem dX4_count_131 : decode cX4_count 131 = .ok (.goto 8, 3) := by decide +kernel
theorem dX4_count_134 : decode cX4_count 134 = .ok (.aload_n 0, 1) := by decide +kernel
theorem dX4_count_135 : decode cX4_count 135 = .ok (.iconst 0, 1) := by decide +kernel
theorem dX4_count_136 : decode cX4_count 136 = .ok (.invokevirtual 159, 3) := by decide +kernel
theorem dX4_count_139 : decode cX4_count 139 = .ok (.ireturn, 1) := by decide +kernel
theorem dX4_count_140 : decode cX4_count 140 = .ok (.aload_n 0, 1) := by decide +kernel
theorem dX4_count_141 : decode cX4_count 141 = .ok (.getfield 42, 3) := by decide +kernel
theorem dX4_count_144 : decode cX4_count 144 = .ok (.ifCond .eq 8, 3) := by decide +kernel
theorem dX4_count_147 : decode cX4_count 147 = .ok (.bipush (-3), 2) := by decide +kernel
theorem dX4_count_149 : decode cX4_count 149 = .ok (.goto 8, 3) := by decide +kernel
theorem dX4_count_152 : decode cX4_count 152 = .ok (.aload_n 0, 1) := by decide +kernel
theorem dX4_count_153 : decode cX4_count 153 = .ok (.iconst 1, 1) := by decide +kernel
theorem dX4_count_154 : decode cX4_count 154 = .ok (.invokevirtual 159, 3) := by decide +kernel
theorem dX4_count_157 : decode cX4_count 157 = .ok (.ireturn, 1) := by decide +kernel
theorem dX4_count_158 : decode cX4_count 158 = .ok (.aload_n 0, 1) := by decide +kernel
theorem dX4_count_159 : decode cX4_count 159 = .ok (.getfield 42, 3) := by decide +kernel
theorem dX4_count_162 : decode cX4_count 162 = .ok (.ifCond .eq 8, 3) := by decide +kernel
theorem dX4_count_165 : decode cX4_count 165 = .ok (.bipush (-3), 2) := by decide +kernel
theorem dX4_count_167 : decode cX4_count 167 = .ok (.goto 7, 3) := by decide +kernel
theorem dX4_count_170 : decode cX4_count 170 = .ok (.aload_n 0, 1) := by decide +kernel
theorem dX4_count_171 : decode cX4_count 171 = .ok (.invokevirtual 162, 3) := by decide +kernel
theorem dX4_count_174 : decode cX4_count 174 = .ok (.ireturn, 1) := by decide +kernel
theorem dX4_count_175 : decode cX4_count 175 = .ok (.bipush (-2), 2) := by decide +kernel
theorem dX4_count_177 : decode cX4_count 177 = .ok (.ireturn, 1) := by decide +kernel
theorem dX4_begin_0 : decode cX4_begin 0 = .ok (.aload_n 0, 1) := by decide +kernel
theorem dX4_begin_1 : decode cX4_begin 1 = .ok (.getfield 12, 3) := by decide +kernel
theorem dX4_begin_4 : decode cX4_begin 4 = .ok (.iload_n 1, 1) := by decide +kernel
theorem dX4_begin_5 : decode cX4_begin 5 = .ok (.invokevirtual 165, 3) := by decide +kernel
theorem dX4_begin_8 : decode cX4_begin 8 = .ok (.aload_n 0, 1) := by decide +kernel
theorem dX4_begin_9 : decode cX4_begin 9 = .ok (.getfield 21, 3) := by decide +kernel
theorem dX4_begin_12 : decode cX4_begin 12 = .ok (.invokevirtual 168, 3) := by decide +kernel
theorem dX4_begin_15 : decode cX4_begin 15 = .ok (.aload_n 0, 1) := by decide +kernel
theorem dX4_begin_16 : decode cX4_begin 16 = .ok (.iconst 0, 1) := by decide +kernel
theorem dX4_begin_17 : decode cX4_begin 17 = .ok (.iload_n 1, 1) := by decide +kernel
theorem dX4_begin_18 : decode cX4_begin 18 = .ok (.iconst 1, 1) := by decide +kernel
theorem dX4_begin_19 : decode cX4_begin 19 = .ok (.isub, 1) := by decide +kernel
theorem dX4_begin_20 : decode cX4_begin 20 = .ok (.invokevirtual 170, 3) := by decide +kernel
theorem dX4_begin_23 : decode cX4_begin 23 = .ok (.aload_n 0, 1) := by decide +kernel
theorem dX4_begin_24 : decode cX4_begin 24 = .ok (.getfield 21, 3) := by decide +kernel
theorem dX4_begin_27 : decode cX4_begin 27 = .ok (.invokevirtual 57, 3) := by decide +kernel
theorem dX4_begin_30 : decode cX4_begin 30 = .ok (.aload_n 0, 1) := by decide +kernel
theorem dX4_begin_31 : decode cX4_begin 31 = .ok (.getfield 30, 3) := by decide +kernel
theorem dX4_begin_34 : decode cX4_begin 34 = .ok (.iconst (-1), 1) := by decide +kernel
theorem dX4_begin_35 : decode cX4_begin 35 = .ok (.putfield 126, 3) := by decide +kernel
theorem dX4_begin_38 : decode cX4_begin 38 = .ok (.aload_n 0, 1) := by decide +kernel
theorem dX4_begin_39 : decode cX4_begin 39 = .ok (.iconst 0, 1) := by decide +kernel
theorem dX4_begin_40 : decode cX4_begin 40 = .ok (.putfield 42, 3) := by decide +kernel
theorem dX4_begin_43 : decode cX4_begin 43 = .ok (.aload_n 0, 1) := by decide +kernel
theorem dX4_begin_44 : decode cX4_begin 44 = .ok (.iconst 0, 1) := by decide +kernel
theorem dX4_begin_45 : decode cX4_begin 45 = .ok (.putfield 152, 3) := by decide +kernel
theorem dX4_begin_48 : decode cX4_begin 48 = .ok (.return_, 1) := by decide +kernel
theorem dX4_isWish_0 : decode cX4_isWish 0 = .ok (.iload_n 0, 1) := by decide +kernel
theorem dX4_isWish_1 : decode cX4_isWish 1 = .ok (.iconst 1, 1) := by decide +kernel
theorem dX4_isWish_2 : decode cX4_isWish 2 = .ok (.if_icmp .lt 14, 3) := by decide +kernel
theorem dX4_isWish_5 : decode cX4_isWish 5 = .ok (.iload_n 0, 1) := by decide +kernel
theorem dX4_isWish_6 : decode cX4_isWish 6 = .ok (.sipush 2048, 3) := by decide +kernel
theorem dX4_isWish_9 : decode cX4_isWish 9 = .ok (.if_icmp .gt 7, 3) := by decide +kernel
theorem dX4_isWish_12 : decode cX4_isWish 12 = .ok (.iconst 1, 1) := by decide +kernel
theorem dX4_isWish_13 : decode cX4_isWish 13 = .ok (.goto 4, 3) := by decide +kernel
theorem dX4_isWish_16 : decode cX4_isWish 16 = .ok (.iconst 0, 1) := by decide +kernel
theorem dX4_isWish_17 : decode cX4_isWish 17 = .ok (.ireturn, 1) := by decide +kernel
theorem dX4_bodyFor_0 : decode cX4_bodyFor 0 = .ok (.iload_n 0, 1) := by decide +kernel
theorem dX4_bodyFor_1 : decode cX4_bodyFor 1 = .ok (.iconst 3, 1) := by decide +kernel
theorem dX4_bodyFor_2 : decode cX4_bodyFor 2 = .ok (.invokestatic 173, 3) := by decide +kernel
theorem dX4_bodyFor_5 : decode cX4_bodyFor 5 = .ok (.ireturn, 1) := by decide +kernel
theorem dX4_isAlignment_0 : decode cX4_isAlignment 0 = .ok (.iload_n 0, 1) := by decide +kernel
theorem dX4_isAlignment_1 : decode cX4_isAlignment 1 = .ok (.iconst 2, 1) := by decide +kernel
theorem dX4_isAlignment_2 : decode cX4_isAlignment 2 = .ok (.if_icmp .lt 21, 3) := by decide +kernel
theorem dX4_isAlignment_5 : decode cX4_isAlignment 5 = .ok (.iload_n 0, 1) := by decide +kernel
theorem dX4_isAlignment_6 : decode cX4_isAlignment 6 = .ok (.bipush 64, 2) := by decide +kernel
theorem dX4_isAlignment_8 : decode cX4_isAlignment 8 = .ok (.if_icmp .gt 15, 3) := by decide +kernel
theorem dX4_isAlignment_11 : decode cX4_isAlignment 11 = .ok (.iload_n 0, 1) := by decide +kernel
theorem dX4_isAlignment_12 : decode cX4_isAlignment 12 = .ok (.iload_n 0, 1) := by decide +kernel
theorem dX4_isAlignment_13 : decode cX4_isAlignment 13 = .ok (.iconst 1, 1) := by decide +kernel
theorem dX4_isAlignment_14 : decode cX4_isAlignment 14 = .ok (.isub, 1) := by decide +kernel
theorem dX4_isAlignment_15 : decode cX4_isAlignment 15 = .ok (.iand, 1) := by decide +kernel
theorem dX4_isAlignment_16 : decode cX4_isAlignment 16 = .ok (.ifCond .ne 7, 3) := by decide +kernel
theorem dX4_isAlignment_19 : decode cX4_isAlignment 19 = .ok (.iconst 1, 1) := by decide +kernel
theorem dX4_isAlignment_20 : decode cX4_isAlignment 20 = .ok (.goto 4, 3) := by decide +kernel
theorem dX4_isAlignment_23 : decode cX4_isAlignment 23 = .ok (.iconst 0, 1) := by decide +kernel
theorem dX4_isAlignment_24 : decode cX4_isAlignment 24 = .ok (.ireturn, 1) := by decide +kernel
theorem dX4_alignedPlace_0 : decode cX4_alignedPlace 0 = .ok (.iload_n 1, 1) := by decide +kernel
theorem dX4_alignedPlace_1 : decode cX4_alignedPlace 1 = .ok (.iconst 1, 1) := by decide +kernel
theorem dX4_alignedPlace_2 : decode cX4_alignedPlace 2 = .ok (.isub, 1) := by decide +kernel
theorem dX4_alignedPlace_3 : decode cX4_alignedPlace 3 = .ok (.istore_n 2, 1) := by decide +kernel
theorem dX4_alignedPlace_4 : decode cX4_alignedPlace 4 = .ok (.iload_n 0, 1) := by decide +kernel
theorem dX4_alignedPlace_5 : decode cX4_alignedPlace 5 = .ok (.iload_n 2, 1) := by decide +kernel
theorem dX4_alignedPlace_6 : decode cX4_alignedPlace 6 = .ok (.iand, 1) := by decide +kernel
theorem dX4_alignedPlace_7 : decode cX4_alignedPlace 7 = .ok (.ifCond .ne 7, 3) := by decide +kernel
theorem dX4_alignedPlace_10 : decode cX4_alignedPlace 10 = .ok (.iload_n 0, 1) := by decide +kernel
theorem dX4_alignedPlace_11 : decode cX4_alignedPlace 11 = .ok (.goto 12, 3) := by decide +kernel
theorem dX4_alignedPlace_14 : decode cX4_alignedPlace 14 = .ok (.iload_n 0, 1) := by decide +kernel
theorem dX4_alignedPlace_15 : decode cX4_alignedPlace 15 = .ok (.iconst 4, 1) := by decide +kernel
theorem dX4_alignedPlace_16 : decode cX4_alignedPlace 16 = .ok (.iadd, 1) := by decide +kernel
theorem dX4_alignedPlace_17 : decode cX4_alignedPlace 17 = .ok (.iload_n 2, 1) := by decide +kernel
theorem dX4_alignedPlace_18 : decode cX4_alignedPlace 18 = .ok (.iadd, 1) := by decide +kernel
theorem dX4_alignedPlace_19 : decode cX4_alignedPlace 19 = .ok (.iload_n 2, 1) := by decide +kernel
theorem dX4_alignedPlace_20 : decode cX4_alignedPlace 20 = .ok (.iconst (-1), 1) := by decide +kernel
theorem dX4_alignedPlace_21 : decode cX4_alignedPlace 21 = .ok (.ixor, 1) := by decide +kernel
theorem dX4_alignedPlace_22 : decode cX4_alignedPlace 22 = .ok (.iand, 1) := by decide +kernel
theorem dX4_alignedPlace_23 : decode cX4_alignedPlace 23 = .ok (.ireturn, 1) := by decide +kernel
theorem dX4_mostAhead_0 : decode cX4_mostAhead 0 = .ok (.iconst 4, 1) := by decide +kernel
theorem dX4_mostAhead_1 : decode cX4_mostAhead 1 = .ok (.iload_n 0, 1) := by decide +kernel
theorem dX4_mostAhead_2 : decode cX4_mostAhead 2 = .ok (.iadd, 1) := by decide +kernel
theorem dX4_mostAhead_3 : decode cX4_mostAhead 3 = .ok (.iconst 1, 1) := by decide +kernel
theorem dX4_mostAhead_4 : decode cX4_mostAhead 4 = .ok (.isub, 1) := by decide +kernel
theorem dX4_mostAhead_5 : decode cX4_mostAhead 5 = .ok (.ireturn, 1) := by decide +kernel
theorem dX4_refuse_0 : decode cX4_refuse 0 = .ok (.aload_n 0, 1) := by decide +kernel
theorem dX4_refuse_1 : decode cX4_refuse 1 = .ok (.dup, 1) := by decide +kernel
theorem dX4_refuse_2 : decode cX4_refuse 2 = .ok (.getfield 152, 3) := by decide +kernel
theorem dX4_refuse_5 : decode cX4_refuse 5 = .ok (.iconst 1, 1) := by decide +kernel
theorem dX4_refuse_6 : decode cX4_refuse 6 = .ok (.iadd, 1) := by decide +kernel
theorem dX4_refuse_7 : decode cX4_refuse 7 = .ok (.putfield 152, 3) := by decide +kernel
theorem dX4_refuse_10 : decode cX4_refuse 10 = .ok (.iconst (-1), 1) := by decide +kernel
theorem dX4_refuse_11 : decode cX4_refuse 11 = .ok (.ireturn, 1) := by decide +kernel
theorem dX4_refusalOf_0 : decode cX4_refusalOf 0 = .ok (.iload_n 1, 1) := by decide +kernel
theorem dX4_refusalOf_1 : decode cX4_refusalOf 1 = .ok (.iconst 1, 1) := by decide +kernel
theorem dX4_refusalOf_2 : decode cX4_refusalOf 2 = .ok (.if_icmp .lt 14, 3) := by decide +kernel
theorem dX4_refusalOf_5 : decode cX4_refusalOf 5 = .ok (.iload_n 1, 1) := by decide +kernel
theorem dX4_refusalOf_6 : decode cX4_refusalOf 6 = .ok (.aload_n 0, 1) := by decide +kernel
theorem dX4_refusalOf_7 : decode cX4_refusalOf 7 = .ok (.getfield 12, 3) := by decide +kernel
theorem dX4_refusalOf_10 : decode cX4_refusalOf 10 = .ok (.getfield 98, 3) := by decide +kernel
theorem dX4_refusalOf_13 : decode cX4_refusalOf 13 = .ok (.if_icmp .lt 6, 3) := by decide +kernel
theorem dX4_refusalOf_16 : decode cX4_refusalOf 16 = .ok (.bipush (-2), 2) := by decide +kernel
theorem dX4_refusalOf_18 : decode cX4_refusalOf 18 = .ok (.ireturn, 1) := by decide +kernel
theorem dX4_refusalOf_19 : decode cX4_refusalOf 19 = .ok (.aload_n 0, 1) := by decide +kernel
theorem dX4_refusalOf_20 : decode cX4_refusalOf 20 = .ok (.getfield 42, 3) := by decide +kernel
theorem dX4_refusalOf_23 : decode cX4_refusalOf 23 = .ok (.ifCond .eq 6, 3) := by decide +kernel
theorem dX4_refusalOf_26 : decode cX4_refusalOf 26 = .ok (.bipush (-3), 2) := by decide +kernel
theorem dX4_refusalOf_28 : decode cX4_refusalOf 28 = .ok (.ireturn, 1) := by decide +kernel
theorem dX4_refusalOf_29 : decode cX4_refusalOf 29 = .ok (.aload_n 0, 1) := by decide +kernel
theorem dX4_refusalOf_30 : decode cX4_refusalOf 30 = .ok (.iload_n 1, 1) := by decide +kernel
theorem dX4_refusalOf_31 : decode cX4_refusalOf 31 = .ok (.invokevirtual 178, 3) := by decide +kernel
theorem dX4_refusalOf_34 : decode cX4_refusalOf 34 = .ok (.ifCond .eq 7, 3) := by decide +kernel
theorem dX4_refusalOf_37 : decode cX4_refusalOf 37 = .ok (.iconst 0, 1) := by decide +kernel
theorem dX4_refusalOf_38 : decode cX4_refusalOf 38 = .ok (.goto 5, 3) := by decide +kernel
theorem dX4_refusalOf_41 : decode cX4_refusalOf 41 = .ok (.bipush (-2), 2) := by decide +kernel
theorem dX4_refusalOf_43 : decode cX4_refusalOf 43 = .ok (.ireturn, 1) := by decide +kernel
theorem dX4_isUsedPlace_0 : decode cX4_isUsedPlace 0 = .ok (.iconst 0, 1) := by decide +kernel
theorem dX4_isUsedPlace_1 : decode cX4_isUsedPlace 1 = .ok (.istore_n 2, 1) := by decide +kernel
theorem dX4_isUsedPlace_2 : decode cX4_isUsedPlace 2 = .ok (.iconst 0, 1) := by decide +kernel
theorem dX4_isUsedPlace_3 : decode cX4_isUsedPlace 3 = .ok (.istore_n 3, 1) := by decide +kernel
theorem dX4_isUsedPlace_4 : decode cX4_isUsedPlace 4 = .ok (.iload_n 3, 1) := by decide +kernel
theorem dX4_isUsedPlace_5 : decode cX4_isUsedPlace 5 = .ok (.sipush 512, 3) := by decide +kernel
theorem dX4_isUsedPlace_8 : decode cX4_isUsedPlace 8 = .ok (.if_icmp .ge 25, 3) := by decide +kernel
theorem dX4_isUsedPlace_11 : decode cX4_isUsedPlace 11 = .ok (.iload_n 2, 1) := by decide +kernel
theorem dX4_isUsedPlace_12 : decode cX4_isUsedPlace 12 = .ok (.iload_n 1, 1) := by decide +kernel
theorem dX4_isUsedPlace_13 : decode cX4_isUsedPlace 13 = .ok (.iconst 1, 1) := by decide +kernel
theorem dX4_isUsedPlace_14 : decode cX4_isUsedPlace 14 = .ok (.isub, 1) := by decide +kernel
theorem dX4_isUsedPlace_15 : decode cX4_isUsedPlace 15 = .ok (.if_icmp .ge 18, 3) := by decide +kernel
theorem dX4_isUsedPlace_18 : decode cX4_isUsedPlace 18 = .ok (.aload_n 0, 1) := by decide +kernel
theorem dX4_isUsedPlace_19 : decode cX4_isUsedPlace 19 = .ok (.getfield 12, 3) := by decide +kernel
theorem dX4_isUsedPlace_22 : decode cX4_isUsedPlace 22 = .ok (.iload_n 2, 1) := by decide +kernel
theorem dX4_isUsedPlace_23 : decode cX4_isUsedPlace 23 = .ok (.invokevirtual 181, 3) := by decide +kernel
theorem dX4_isUsedPlace_26 : decode cX4_isUsedPlace 26 = .ok (.istore_n 2, 1) := by decide +kernel
theorem dX4_isUsedPlace_27 : decode cX4_isUsedPlace 27 = .ok (.iinc 3 1, 3) := by decide +kernel
theorem dX4_isUsedPlace_30 : decode cX4_isUsedPlace 30 = .ok (.goto (-26), 3) := by decide +kernel
theorem dX4_isUsedPlace_33 : decode cX4_isUsedPlace 33 = .ok (.iload_n 2, 1) := by decide +kernel
theorem dX4_isUsedPlace_34 : decode cX4_isUsedPlace 34 = .ok (.iload_n 1, 1) := by decide +kernel
theorem dX4_isUsedPlace_35 : decode cX4_isUsedPlace 35 = .ok (.iconst 1, 1) := by decide +kernel
theorem dX4_isUsedPlace_36 : decode cX4_isUsedPlace 36 = .ok (.isub, 1) := by decide +kernel
theorem dX4_isUsedPlace_37 : decode cX4_isUsedPlace 37 = .ok (.if_icmp .ne 29, 3) := by decide +kernel
theorem dX4_isUsedPlace_40 : decode cX4_isUsedPlace 40 = .ok (.aload_n 0, 1) := by decide +kernel
theorem dX4_isUsedPlace_41 : decode cX4_isUsedPlace 41 = .ok (.getfield 12, 3) := by decide +kernel
theorem dX4_isUsedPlace_44 : decode cX4_isUsedPlace 44 = .ok (.iload_n 2, 1) := by decide +kernel
theorem dX4_isUsedPlace_45 : decode cX4_isUsedPlace 45 = .ok (.invokevirtual 120, 3) := by decide +kernel
theorem dX4_isUsedPlace_48 : decode cX4_isUsedPlace 48 = .ok (.ifCond .eq 18, 3) := by decide +kernel
theorem dX4_isUsedPlace_51 : decode cX4_isUsedPlace 51 = .ok (.aload_n 0, 1) := by decide +kernel
theorem dX4_isUsedPlace_52 : decode cX4_isUsedPlace 52 = .ok (.getfield 12, 3) := by decide +kernel
theorem dX4_isUsedPlace_55 : decode cX4_isUsedPlace 55 = .ok (.iload_n 2, 1) := by decide +kernel
theorem dX4_isUsedPlace_56 : decode cX4_isUsedPlace 56 = .ok (.invokevirtual 105, 3) := by decide +kernel
theorem dX4_isUsedPlace_59 : decode cX4_isUsedPlace 59 = .ok (.ifCond .ne 7, 3) := by decide +kernel
theorem dX4_isUsedPlace_62 : decode cX4_isUsedPlace 62 = .ok (.iconst 1, 1) := by decide +kernel
theorem dX4_isUsedPlace_63 : decode cX4_isUsedPlace 63 = .ok (.goto 4, 3) := by decide +kernel
theorem dX4_isUsedPlace_66 : decode cX4_isUsedPlace 66 = .ok (.iconst 0, 1) := by decide +kernel
theorem dX4_isUsedPlace_67 : decode cX4_isUsedPlace 67 = .ok (.ireturn, 1) := by decide +kernel
theorem dX4_headerOfBlock_0 : decode cX4_headerOfBlock 0 = .ok (.iconst 0, 1) := by decide +kernel
theorem dX4_headerOfBlock_1 : decode cX4_headerOfBlock 1 = .ok (.istore_n 2, 1) := by decide +kernel
theorem dX4_headerOfBlock_2 : decode cX4_headerOfBlock 2 = .ok (.iconst 0, 1) := by decide +kernel
theorem dX4_headerOfBlock_3 : decode cX4_headerOfBlock 3 = .ok (.istore_n 3, 1) := by decide +kernel
theorem dX4_headerOfBlock_4 : decode cX4_headerOfBlock 4 = .ok (.iload_n 3, 1) := by decide +kernel
theorem dX4_headerOfBlock_5 : decode cX4_headerOfBlock 5 = .ok (.sipush 512, 3) := by decide +kernel
theorem dX4_headerOfBlock_8 : decode cX4_headerOfBlock 8 = .ok (.if_icmp .ge 34, 3) := by decide +kernel
theorem dX4_headerOfBlock_11 : decode cX4_headerOfBlock 11 = .ok (.iload_n 3, 1) := by decide +kernel
theorem dX4_headerOfBlock_12 : decode cX4_headerOfBlock 12 = .ok (.iload_n 1, 1) := by decide +kernel
theorem dX4_headerOfBlock_13 : decode cX4_headerOfBlock 13 = .ok (.if_icmp .ge 29, 3) := by decide +kernel
theorem dX4_headerOfBlock_16 : decode cX4_headerOfBlock 16 = .ok (.iload_n 2, 1) := by decide +kernel
theorem dX4_headerOfBlock_17 : decode cX4_headerOfBlock 17 = .ok (.aload_n 0, 1) := by decide +kernel
theorem dX4_headerOfBlock_18 : decode cX4_headerOfBlock 18 = .ok (.getfield 12, 3) := by decide +kernel
theorem dX4_headerOfBlock_21 : decode cX4_headerOfBlock 21 = .ok (.getfield 98, 3) := by decide +kernel
theorem dX4_headerOfBlock_24 : decode cX4_headerOfBlock 24 = .ok (.if_icmp .ge 18, 3) := by decide +kernel
theorem dX4_headerOfBlock_27 : decode cX4_headerOfBlock 27 = .ok (.aload_n 0, 1) := by decide +kernel
theorem dX4_headerOfBlock_28 : decode cX4_headerOfBlock 28 = .ok (.getfield 12, 3) := by decide +kernel
theorem dX4_headerOfBlock_31 : decode cX4_headerOfBlock 31 = .ok (.iload_n 2, 1) := by decide +kernel
theorem dX4_headerOfBlock_32 : decode cX4_headerOfBlock 32 = .ok (.invokevirtual 181, 3) := by decide +kernel
theorem dX4_headerOfBlock_35 : decode cX4_headerOfBlock 35 = .ok (.istore_n 2, 1) := by decide +kernel
theorem dX4_headerOfBlock_36 : decode cX4_headerOfBlock 36 = .ok (.iinc 3 1, 3) := by decide +kernel
theorem dX4_headerOfBlock_39 : decode cX4_headerOfBlock 39 = .ok (.goto (-35), 3) := by decide +kernel
theorem dX4_headerOfBlock_42 : decode cX4_headerOfBlock 42 = .ok (.iload_n 1, 1) := by decide +kernel
theorem dX4_headerOfBlock_43 : decode cX4_headerOfBlock 43 = .ok (.sipush 512, 3) := by decide +kernel
theorem dX4_headerOfBlock_46 : decode cX4_headerOfBlock 46 = .ok (.if_icmp .ge 18, 3) := by decide +kernel
theorem dX4_headerOfBlock_49 : decode cX4_headerOfBlock 49 = .ok (.aload_n 0, 1) := by decide +kernel
theorem dX4_headerOfBlock_50 : decode cX4_headerOfBlock 50 = .ok (.getfield 12, 3) := by decide +kernel
theorem dX4_headerOfBlock_53 : decode cX4_headerOfBlock 53 = .ok (.iload_n 2, 1) := by decide +kernel
theorem dX4_headerOfBlock_54 : decode cX4_headerOfBlock 54 = .ok (.invokevirtual 120, 3) := by decide +kernel
theorem dX4_headerOfBlock_57 : decode cX4_headerOfBlock 57 = .ok (.ifCond .eq 7, 3) := by decide +kernel
theorem dX4_headerOfBlock_60 : decode cX4_headerOfBlock 60 = .ok (.iload_n 2, 1) := by decide +kernel
theorem dX4_headerOfBlock_61 : decode cX4_headerOfBlock 61 = .ok (.goto 4, 3) := by decide +kernel
theorem dX4_headerOfBlock_64 : decode cX4_headerOfBlock 64 = .ok (.iconst (-1), 1) := by decide +kernel
theorem dX4_headerOfBlock_65 : decode cX4_headerOfBlock 65 = .ok (.ireturn, 1) := by decide +kernel
theorem dX4_lastHeader_0 : decode cX4_lastHeader 0 = .ok (.iconst 0, 1) := by decide +kernel
theorem dX4_lastHeader_1 : decode cX4_lastHeader 1 = .ok (.istore_n 1, 1) := by decide +kernel
theorem dX4_lastHeader_2 : decode cX4_lastHeader 2 = .ok (.iconst 0, 1) := by decide +kernel
theorem dX4_lastHeader_3 : decode cX4_lastHeader 3 = .ok (.istore_n 2, 1) := by decide +kernel
theorem dX4_lastHeader_4 : decode cX4_lastHeader 4 = .ok (.iload_n 2, 1) := by decide +kernel
theorem dX4_lastHeader_5 : decode cX4_lastHeader 5 = .ok (.sipush 512, 3) := by decide +kernel
theorem dX4_lastHeader_8 : decode cX4_lastHeader 8 = .ok (.if_icmp .ge 36, 3) := by decide +kernel
theorem dX4_lastHeader_11 : decode cX4_lastHeader 11 = .ok (.aload_n 0, 1) := by decide +kernel
theorem dX4_lastHeader_12 : decode cX4_lastHeader 12 = .ok (.getfield 12, 3) := by decide +kernel
theorem dX4_lastHeader_15 : decode cX4_lastHeader 15 = .ok (.iload_n 1, 1) := by decide +kernel
theorem dX4_lastHeader_16 : decode cX4_lastHeader 16 = .ok (.invokevirtual 181, 3) := by decide +kernel
theorem dX4_lastHeader_19 : decode cX4_lastHeader 19 = .ok (.aload_n 0, 1) := by decide +kernel
theorem dX4_lastHeader_20 : decode cX4_lastHeader 20 = .ok (.getfield 12, 3) := by decide +kernel
theorem dX4_lastHeader_23 : decode cX4_lastHeader 23 = .ok (.getfield 98, 3) := by decide +kernel
theorem dX4_lastHeader_26 : decode cX4_lastHeader 26 = .ok (.if_icmp .ge 18, 3) := by decide +kernel
theorem dX4_lastHeader_29 : decode cX4_lastHeader 29 = .ok (.aload_n 0, 1) := by decide +kernel
theorem dX4_lastHeader_30 : decode cX4_lastHeader 30 = .ok (.getfield 12, 3) := by decide +kernel
theorem dX4_lastHeader_33 : decode cX4_lastHeader 33 = .ok (.iload_n 1, 1) := by decide +kernel
theorem dX4_lastHeader_34 : decode cX4_lastHeader 34 = .ok (.invokevirtual 181, 3) := by decide +kernel
theorem dX4_lastHeader_37 : decode cX4_lastHeader 37 = .ok (.istore_n 1, 1) := by decide +kernel
theorem dX4_lastHeader_38 : decode cX4_lastHeader 38 = .ok (.iinc 2 1, 3) := by decide +kernel
theorem dX4_lastHeader_41 : decode cX4_lastHeader 41 = .ok (.goto (-37), 3) := by decide +kernel
theorem dX4_lastHeader_44 : decode cX4_lastHeader 44 = .ok (.iload_n 1, 1) := by decide +kernel
theorem dX4_lastHeader_45 : decode cX4_lastHeader 45 = .ok (.ireturn, 1) := by decide +kernel
theorem dX4_wordsOf_0 : decode cX4_wordsOf 0 = .ok (.iconst 0, 1) := by decide +kernel
theorem dX4_wordsOf_1 : decode cX4_wordsOf 1 = .ok (.istore_n 2, 1) := by decide +kernel
theorem dX4_wordsOf_2 : decode cX4_wordsOf 2 = .ok (.iconst 0, 1) := by decide +kernel
theorem dX4_wordsOf_3 : decode cX4_wordsOf 3 = .ok (.istore_n 3, 1) := by decide +kernel
theorem dX4_wordsOf_4 : decode cX4_wordsOf 4 = .ok (.iconst 0, 1) := by decide +kernel
theorem dX4_wordsOf_5 : decode cX4_wordsOf 5 = .ok (.istore 4, 2) := by decide +kernel
theorem dX4_wordsOf_7 : decode cX4_wordsOf 7 = .ok (.iload 4, 2) := by decide +kernel
theorem dX4_wordsOf_9 : decode cX4_wordsOf 9 = .ok (.sipush 512, 3) := by decide +kernel
theorem dX4_wordsOf_12 : decode cX4_wordsOf 12 = .ok (.if_icmp .ge 52, 3) := by decide +kernel
theorem dX4_wordsOf_15 : decode cX4_wordsOf 15 = .ok (.iload_n 3, 1) := by decide +kernel
theorem dX4_wordsOf_16 : decode cX4_wordsOf 16 = .ok (.aload_n 0, 1) := by decide +kernel
theorem dX4_wordsOf_17 : decode cX4_wordsOf 17 = .ok (.getfield 12, 3) := by decide +kernel
theorem dX4_wordsOf_20 : decode cX4_wordsOf 20 = .ok (.getfield 98, 3) := by decide +kernel
theorem dX4_wordsOf_23 : decode cX4_wordsOf 23 = .ok (.if_icmp .ge 41, 3) := by decide +kernel
theorem dX4_wordsOf_26 : decode cX4_wordsOf 26 = .ok (.aload_n 0, 1) := by decide +kernel
theorem dX4_wordsOf_27 : decode cX4_wordsOf 27 = .ok (.getfield 12, 3) := by decide +kernel
theorem dX4_wordsOf_30 : decode cX4_wordsOf 30 = .ok (.iload_n 3, 1) := by decide +kernel
theorem dX4_wordsOf_31 : decode cX4_wordsOf 31 = .ok (.invokevirtual 105, 3) := by decide +kernel
theorem dX4_wordsOf_34 : decode cX4_wordsOf 34 = .ok (.iload_n 1, 1) := by decide +kernel
theorem dX4_wordsOf_35 : decode cX4_wordsOf 35 = .ok (.if_icmp .ne 14, 3) := by decide +kernel
theorem dX4_wordsOf_38 : decode cX4_wordsOf 38 = .ok (.iload_n 2, 1) := by decide +kernel
theorem dX4_wordsOf_39 : decode cX4_wordsOf 39 = .ok (.aload_n 0, 1) := by decide +kernel
theorem dX4_wordsOf_40 : decode cX4_wordsOf 40 = .ok (.getfield 12, 3) := by decide +kernel
theorem dX4_wordsOf_43 : decode cX4_wordsOf 43 = .ok (.iload_n 3, 1) := by decide +kernel
theorem dX4_wordsOf_44 : decode cX4_wordsOf 44 = .ok (.invokevirtual 89, 3) := by decide +kernel
theorem dX4_wordsOf_47 : decode cX4_wordsOf 47 = .ok (.iadd, 1) := by decide +kernel
theorem dX4_wordsOf_48 : decode cX4_wordsOf 48 = .ok (.istore_n 2, 1) := by decide +kernel
theorem dX4_wordsOf_49 : decode cX4_wordsOf 49 = .ok (.aload_n 0, 1) := by decide +kernel
theorem dX4_wordsOf_50 : decode cX4_wordsOf 50 = .ok (.getfield 12, 3) := by decide +kernel
theorem dX4_wordsOf_53 : decode cX4_wordsOf 53 = .ok (.iload_n 3, 1) := by decide +kernel
theorem dX4_wordsOf_54 : decode cX4_wordsOf 54 = .ok (.invokevirtual 181, 3) := by decide +kernel
theorem dX4_wordsOf_57 : decode cX4_wordsOf 57 = .ok (.istore_n 3, 1) := by decide +kernel
theorem dX4_wordsOf_58 : decode cX4_wordsOf 58 = .ok (.iinc 4 1, 3) := by decide +kernel
theorem dX4_wordsOf_61 : decode cX4_wordsOf 61 = .ok (.goto (-54), 3) := by decide +kernel
theorem dX4_wordsOf_64 : decode cX4_wordsOf 64 = .ok (.iload_n 2, 1) := by decide +kernel
theorem dX4_wordsOf_65 : decode cX4_wordsOf 65 = .ok (.ireturn, 1) := by decide +kernel
theorem dX4_blocksOf_0 : decode cX4_blocksOf 0 = .ok (.iconst 0, 1) := by decide +kernel
theorem dX4_blocksOf_1 : decode cX4_blocksOf 1 = .ok (.istore_n 2, 1) := by decide +kernel
theorem dX4_blocksOf_2 : decode cX4_blocksOf 2 = .ok (.iconst 0, 1) := by decide +kernel
theorem dX4_blocksOf_3 : decode cX4_blocksOf 3 = .ok (.istore_n 3, 1) := by decide +kernel
theorem dX4_blocksOf_4 : decode cX4_blocksOf 4 = .ok (.iconst 0, 1) := by decide +kernel
theorem dX4_blocksOf_5 : decode cX4_blocksOf 5 = .ok (.istore 4, 2) := by decide +kernel
theorem dX4_blocksOf_7 : decode cX4_blocksOf 7 = .ok (.iload 4, 2) := by decide +kernel
theorem dX4_blocksOf_9 : decode cX4_blocksOf 9 = .ok (.sipush 512, 3) := by decide +kernel
theorem dX4_blocksOf_12 : decode cX4_blocksOf 12 = .ok (.if_icmp .ge 44, 3) := by decide +kernel
theorem dX4_blocksOf_15 : decode cX4_blocksOf 15 = .ok (.iload_n 3, 1) := by decide +kernel
theorem dX4_blocksOf_16 : decode cX4_blocksOf 16 = .ok (.aload_n 0, 1) := by decide +kernel
theorem dX4_blocksOf_17 : decode cX4_blocksOf 17 = .ok (.getfield 12, 3) := by decide +kernel
theorem dX4_blocksOf_20 : decode cX4_blocksOf 20 = .ok (.getfield 98, 3) := by decide +kernel
theorem dX4_blocksOf_23 : decode cX4_blocksOf 23 = .ok (.if_icmp .ge 33, 3) := by decide +kernel
theorem dX4_blocksOf_26 : decode cX4_blocksOf 26 = .ok (.aload_n 0, 1) := by decide +kernel
theorem dX4_blocksOf_27 : decode cX4_blocksOf 27 = .ok (.getfield 12, 3) := by decide +kernel
theorem dX4_blocksOf_30 : decode cX4_blocksOf 30 = .ok (.iload_n 3, 1) := by decide +kernel
theorem dX4_blocksOf_31 : decode cX4_blocksOf 31 = .ok (.invokevirtual 105, 3) := by decide +kernel
theorem dX4_blocksOf_34 : decode cX4_blocksOf 34 = .ok (.iload_n 1, 1) := by decide +kernel
theorem dX4_blocksOf_35 : decode cX4_blocksOf 35 = .ok (.if_icmp .ne 6, 3) := by decide +kernel
theorem dX4_blocksOf_38 : decode cX4_blocksOf 38 = .ok (.iinc 2 1, 3) := by decide +kernel
theorem dX4_blocksOf_41 : decode cX4_blocksOf 41 = .ok (.aload_n 0, 1) := by decide +kernel
theorem dX4_blocksOf_42 : decode cX4_blocksOf 42 = .ok (.getfield 12, 3) := by decide +kernel
theorem dX4_blocksOf_45 : decode cX4_blocksOf 45 = .ok (.iload_n 3, 1) := by decide +kernel
theorem dX4_blocksOf_46 : decode cX4_blocksOf 46 = .ok (.invokevirtual 181, 3) := by decide +kernel
theorem dX4_blocksOf_49 : decode cX4_blocksOf 49 = .ok (.istore_n 3, 1) := by decide +kernel
theorem dX4_blocksOf_50 : decode cX4_blocksOf 50 = .ok (.iinc 4 1, 3) := by decide +kernel
theorem dX4_blocksOf_53 : decode cX4_blocksOf 53 = .ok (.goto (-46), 3) := by decide +kernel
theorem dX4_blocksOf_56 : decode cX4_blocksOf 56 = .ok (.iload_n 2, 1) := by decide +kernel
theorem dX4_blocksOf_57 : decode cX4_blocksOf 57 = .ok (.ireturn, 1) := by decide +kernel
theorem dX4_mostFree_0 : decode cX4_mostFree 0 = .ok (.iconst 0, 1) := by decide +kernel
theorem dX4_mostFree_1 : decode cX4_mostFree 1 = .ok (.istore_n 1, 1) := by decide +kernel
theorem dX4_mostFree_2 : decode cX4_mostFree 2 = .ok (.iconst 0, 1) := by decide +kernel
theorem dX4_mostFree_3 : decode cX4_mostFree 3 = .ok (.istore_n 2, 1) := by decide +kernel
theorem dX4_mostFree_4 : decode cX4_mostFree 4 = .ok (.iconst 0, 1) := by decide +kernel
theorem dX4_mostFree_5 : decode cX4_mostFree 5 = .ok (.istore_n 3, 1) := by decide +kernel
theorem dX4_mostFree_6 : decode cX4_mostFree 6 = .ok (.iload_n 3, 1) := by decide +kernel
theorem dX4_mostFree_7 : decode cX4_mostFree 7 = .ok (.sipush 512, 3) := by decide +kernel
theorem dX4_mostFree_10 : decode cX4_mostFree 10 = .ok (.if_icmp .ge 53, 3) := by decide +kernel
theorem dX4_mostFree_13 : decode cX4_mostFree 13 = .ok (.iload_n 2, 1) := by decide +kernel
theorem dX4_mostFree_14 : decode cX4_mostFree 14 = .ok (.aload_n 0, 1) := by decide +kernel
theorem dX4_mostFree_15 : decode cX4_mostFree 15 = .ok (.getfield 12, 3) := by decide +kernel
theorem dX4_mostFree_18 : decode cX4_mostFree 18 = .ok (.getfield 98, 3) := by decide +kernel
theorem dX4_mostFree_21 : decode cX4_mostFree 21 = .ok (.if_icmp .ge 42, 3) := by decide +kernel
theorem dX4_mostFree_24 : decode cX4_mostFree 24 = .ok (.aload_n 0, 1) := by decide +kernel
theorem dX4_mostFree_25 : decode cX4_mostFree 25 = .ok (.getfield 12, 3) := by decide +kernel
theorem dX4_mostFree_28 : decode cX4_mostFree 28 = .ok (.iload_n 2, 1) := by decide +kernel
theorem dX4_mostFree_29 : decode cX4_mostFree 29 = .ok (.invokevirtual 105, 3) := by decide +kernel
theorem dX4_mostFree_32 : decode cX4_mostFree 32 = .ok (.ifCond .eq 16, 3) := by decide +kernel
theorem dX4_mostFree_35 : decode cX4_mostFree 35 = .ok (.iload_n 1, 1) := by decide +kernel
theorem dX4_mostFree_36 : decode cX4_mostFree 36 = .ok (.aload_n 0, 1) := by decide +kernel
theorem dX4_mostFree_37 : decode cX4_mostFree 37 = .ok (.getfield 12, 3) := by decide +kernel
theorem dX4_mostFree_40 : decode cX4_mostFree 40 = .ok (.iload_n 2, 1) := by decide +kernel
theorem dX4_mostFree_41 : decode cX4_mostFree 41 = .ok (.invokevirtual 89, 3) := by decide +kernel
theorem dX4_mostFree_44 : decode cX4_mostFree 44 = .ok (.invokestatic 173, 3) := by decide +kernel
theorem dX4_mostFree_47 : decode cX4_mostFree 47 = .ok (.istore_n 1, 1) := by decide +kernel
theorem dX4_mostFree_48 : decode cX4_mostFree 48 = .ok (.aload_n 0, 1) := by decide +kernel
theorem dX4_mostFree_49 : decode cX4_mostFree 49 = .ok (.getfield 12, 3) := by decide +kernel
theorem dX4_mostFree_52 : decode cX4_mostFree 52 = .ok (.iload_n 2, 1) := by decide +kernel
theorem dX4_mostFree_53 : decode cX4_mostFree 53 = .ok (.invokevirtual 181, 3) := by decide +kernel
theorem dX4_mostFree_56 : decode cX4_mostFree 56 = .ok (.istore_n 2, 1) := by decide +kernel
theorem dX4_mostFree_57 : decode cX4_mostFree 57 = .ok (.iinc 3 1, 3) := by decide +kernel
theorem dX4_mostFree_60 : decode cX4_mostFree 60 = .ok (.goto (-54), 3) := by decide +kernel
theorem dX4_mostFree_63 : decode cX4_mostFree 63 = .ok (.iload_n 1, 1) := by decide +kernel
theorem dX4_mostFree_64 : decode cX4_mostFree 64 = .ok (.ireturn, 1) := by decide +kernel
theorem dX4_take_0 : decode cX4_take 0 = .ok (.aload_n 0, 1) := by decide +kernel
theorem dX4_take_1 : decode cX4_take 1 = .ok (.getfield 21, 3) := by decide +kernel
theorem dX4_take_4 : decode cX4_take 4 = .ok (.iload_n 1, 1) := by decide +kernel
theorem dX4_take_5 : decode cX4_take 5 = .ok (.invokevirtual 184, 3) := by decide +kernel
theorem dX4_take_8 : decode cX4_take 8 = .ok (.aload_n 0, 1) := by decide +kernel
theorem dX4_take_9 : decode cX4_take 9 = .ok (.getfield 12, 3) := by decide +kernel
theorem dX4_take_12 : decode cX4_take 12 = .ok (.iload_n 1, 1) := by decide +kernel
theorem dX4_take_13 : decode cX4_take 13 = .ok (.aload_n 0, 1) := by decide +kernel
theorem dX4_take_14 : decode cX4_take 14 = .ok (.getfield 12, 3) := by decide +kernel
theorem dX4_take_17 : decode cX4_take 17 = .ok (.iload_n 1, 1) := by decide +kernel
theorem dX4_take_18 : decode cX4_take 18 = .ok (.invokevirtual 89, 3) := by decide +kernel
theorem dX4_take_21 : decode cX4_take 21 = .ok (.iconst 0, 1) := by decide +kernel
theorem dX4_take_22 : decode cX4_take 22 = .ok (.invokevirtual 108, 3) := by decide +kernel
theorem dX4_take_25 : decode cX4_take 25 = .ok (.aload_n 0, 1) := by decide +kernel
theorem dX4_take_26 : decode cX4_take 26 = .ok (.getfield 12, 3) := by decide +kernel
theorem dX4_take_29 : decode cX4_take 29 = .ok (.iload_n 1, 1) := by decide +kernel
theorem dX4_take_30 : decode cX4_take 30 = .ok (.invokevirtual 187, 3) := by decide +kernel
theorem dX4_take_33 : decode cX4_take 33 = .ok (.return_, 1) := by decide +kernel
theorem dX4_cutTo_0 : decode cX4_cutTo 0 = .ok (.aload_n 0, 1) := by decide +kernel
theorem dX4_cutTo_1 : decode cX4_cutTo 1 = .ok (.getfield 12, 3) := by decide +kernel
theorem dX4_cutTo_4 : decode cX4_cutTo 4 = .ok (.iload_n 1, 1) := by decide +kernel
theorem dX4_cutTo_5 : decode cX4_cutTo 5 = .ok (.invokevirtual 89, 3) := by decide +kernel
theorem dX4_cutTo_8 : decode cX4_cutTo 8 = .ok (.iload_n 2, 1) := by decide +kernel
theorem dX4_cutTo_9 : decode cX4_cutTo 9 = .ok (.isub, 1) := by decide +kernel
theorem dX4_cutTo_10 : decode cX4_cutTo 10 = .ok (.istore_n 3, 1) := by decide +kernel
theorem dX4_cutTo_11 : decode cX4_cutTo 11 = .ok (.iload_n 3, 1) := by decide +kernel
theorem dX4_cutTo_12 : decode cX4_cutTo 12 = .ok (.iconst 4, 1) := by decide +kernel
theorem dX4_cutTo_13 : decode cX4_cutTo 13 = .ok (.if_icmp .ge 4, 3) := by decide +kernel
theorem dX4_cutTo_16 : decode cX4_cutTo 16 = .ok (.return_, 1) := by decide +kernel
theorem dX4_cutTo_17 : decode cX4_cutTo 17 = .ok (.aload_n 0, 1) := by decide +kernel
theorem dX4_cutTo_18 : decode cX4_cutTo 18 = .ok (.getfield 12, 3) := by decide +kernel
theorem dX4_cutTo_21 : decode cX4_cutTo 21 = .ok (.iload_n 1, 1) := by decide +kernel
theorem dX4_cutTo_22 : decode cX4_cutTo 22 = .ok (.iload_n 2, 1) := by decide +kernel
theorem dX4_cutTo_23 : decode cX4_cutTo 23 = .ok (.invokevirtual 190, 3) := by decide +kernel
theorem dX4_cutTo_26 : decode cX4_cutTo 26 = .ok (.aload_n 0, 1) := by decide +kernel
theorem dX4_cutTo_27 : decode cX4_cutTo 27 = .ok (.getfield 12, 3) := by decide +kernel
theorem dX4_cutTo_30 : decode cX4_cutTo 30 = .ok (.iload_n 1, 1) := by decide +kernel
theorem dX4_cutTo_31 : decode cX4_cutTo 31 = .ok (.invokevirtual 181, 3) := by decide +kernel
theorem dX4_cutTo_34 : decode cX4_cutTo 34 = .ok (.istore 4, 2) := by decide +kernel
theorem dX4_cutTo_36 : decode cX4_cutTo 36 = .ok (.aload_n 0, 1) := by decide +kernel
theorem dX4_cutTo_37 : decode cX4_cutTo 37 = .ok (.getfield 12, 3) := by decide +kernel
theorem dX4_cutTo_40 : decode cX4_cutTo 40 = .ok (.iload 4, 2) := by decide +kernel
theorem dX4_cutTo_42 : decode cX4_cutTo 42 = .ok (.iload_n 3, 1) := by decide +kernel
theorem dX4_cutTo_43 : decode cX4_cutTo 43 = .ok (.iconst 1, 1) := by decide +kernel
theorem dX4_cutTo_44 : decode cX4_cutTo 44 = .ok (.isub, 1) := by decide +kernel
theorem dX4_cutTo_45 : decode cX4_cutTo 45 = .ok (.iconst 0, 1) := by decide +kernel
theorem dX4_cutTo_46 : decode cX4_cutTo 46 = .ok (.invokevirtual 108, 3) := by decide +kernel
theorem dX4_cutTo_49 : decode cX4_cutTo 49 = .ok (.aload_n 0, 1) := by decide +kernel
theorem dX4_cutTo_50 : decode cX4_cutTo 50 = .ok (.iload 4, 2) := by decide +kernel
theorem dX4_cutTo_52 : decode cX4_cutTo 52 = .ok (.invokevirtual 83, 3) := by decide +kernel
theorem dX4_cutTo_55 : decode cX4_cutTo 55 = .ok (.pop, 1) := by decide +kernel
theorem dX4_cutTo_56 : decode cX4_cutTo 56 = .ok (.return_, 1) := by decide +kernel
theorem dX4_splitBefore_0 : decode cX4_splitBefore 0 = .ok (.aload_n 0, 1) := by decide +kernel
theorem dX4_splitBefore_1 : decode cX4_splitBefore 1 = .ok (.getfield 12, 3) := by decide +kernel
theorem dX4_splitBefore_4 : decode cX4_splitBefore 4 = .ok (.iload_n 2, 1) := by decide +kernel
theorem dX4_splitBefore_5 : decode cX4_splitBefore 5 = .ok (.aload_n 0, 1) := by decide +kernel
theorem dX4_splitBefore_6 : decode cX4_splitBefore 6 = .ok (.getfield 12, 3) := by decide +kernel
theorem dX4_splitBefore_9 : decode cX4_splitBefore 9 = .ok (.iload_n 1, 1) := by decide +kernel
theorem dX4_splitBefore_10 : decode cX4_splitBefore 10 = .ok (.invokevirtual 89, 3) := by decide +kernel
theorem dX4_splitBefore_13 : decode cX4_splitBefore 13 = .ok (.iload_n 2, 1) := by decide +kernel
theorem dX4_splitBefore_14 : decode cX4_splitBefore 14 = .ok (.iload_n 1, 1) := by decide +kernel
theorem dX4_splitBefore_15 : decode cX4_splitBefore 15 = .ok (.isub, 1) := by decide +kernel
theorem dX4_splitBefore_16 : decode cX4_splitBefore 16 = .ok (.isub, 1) := by decide +kernel
theorem dX4_splitBefore_17 : decode cX4_splitBefore 17 = .ok (.iconst 0, 1) := by decide +kernel
theorem dX4_splitBefore_18 : decode cX4_splitBefore 18 = .ok (.invokevirtual 108, 3) := by decide +kernel
theorem dX4_splitBefore_21 : decode cX4_splitBefore 21 = .ok (.aload_n 0, 1) := by decide +kernel
theorem dX4_splitBefore_22 : decode cX4_splitBefore 22 = .ok (.iload_n 1, 1) := by decide +kernel
theorem dX4_splitBefore_23 : decode cX4_splitBefore 23 = .ok (.iload_n 2, 1) := by decide +kernel
theorem dX4_splitBefore_24 : decode cX4_splitBefore 24 = .ok (.iload_n 1, 1) := by decide +kernel
theorem dX4_splitBefore_25 : decode cX4_splitBefore 25 = .ok (.isub, 1) := by decide +kernel
theorem dX4_splitBefore_26 : decode cX4_splitBefore 26 = .ok (.iconst 1, 1) := by decide +kernel
theorem dX4_splitBefore_27 : decode cX4_splitBefore 27 = .ok (.isub, 1) := by decide +kernel
theorem dX4_splitBefore_28 : decode cX4_splitBefore 28 = .ok (.invokevirtual 170, 3) := by decide +kernel
theorem dX4_splitBefore_31 : decode cX4_splitBefore 31 = .ok (.return_, 1) := by decide +kernel
theorem dX4_release_0 : decode cX4_release 0 = .ok (.iload_n 1, 1) := by decide +kernel
theorem dX4_release_1 : decode cX4_release 1 = .ok (.istore_n 2, 1) := by decide +kernel
theorem dX4_release_2 : decode cX4_release 2 = .ok (.aload_n 0, 1) := by decide +kernel
theorem dX4_release_3 : decode cX4_release 3 = .ok (.getfield 12, 3) := by decide +kernel
theorem dX4_release_6 : decode cX4_release 6 = .ok (.iload_n 1, 1) := by decide +kernel
theorem dX4_release_7 : decode cX4_release 7 = .ok (.invokevirtual 89, 3) := by decide +kernel
theorem dX4_release_10 : decode cX4_release 10 = .ok (.istore_n 3, 1) := by decide +kernel
theorem dX4_release_11 : decode cX4_release 11 = .ok (.aload_n 0, 1) := by decide +kernel
theorem dX4_release_12 : decode cX4_release 12 = .ok (.getfield 12, 3) := by decide +kernel
theorem dX4_release_15 : decode cX4_release 15 = .ok (.iload_n 1, 1) := by decide +kernel
theorem dX4_release_16 : decode cX4_release 16 = .ok (.invokevirtual 181, 3) := by decide +kernel
theorem dX4_release_19 : decode cX4_release 19 = .ok (.istore 4, 2) := by decide +kernel
theorem dX4_release_21 : decode cX4_release 21 = .ok (.aload_n 0, 1) := by decide +kernel
theorem dX4_release_22 : decode cX4_release 22 = .ok (.getfield 12, 3) := by decide +kernel
theorem dX4_release_25 : decode cX4_release 25 = .ok (.iload 4, 2) := by decide +kernel
theorem dX4_release_27 : decode cX4_release 27 = .ok (.invokevirtual 105, 3) := by decide +kernel
theorem dX4_release_30 : decode cX4_release 30 = .ok (.ifCond .eq 26, 3) := by decide +kernel
theorem dX4_release_33 : decode cX4_release 33 = .ok (.aload_n 0, 1) := by decide +kernel
theorem dX4_release_34 : decode cX4_release 34 = .ok (.getfield 21, 3) := by decide +kernel
theorem dX4_release_37 : decode cX4_release 37 = .ok (.iload 4, 2) := by decide +kernel
theorem dX4_release_39 : decode cX4_release 39 = .ok (.invokevirtual 184, 3) := by decide +kernel
theorem dX4_release_42 : decode cX4_release 42 = .ok (.iload_n 3, 1) := by decide +kernel
theorem dX4_release_43 : decode cX4_release 43 = .ok (.iconst 1, 1) := by decide +kernel
theorem dX4_release_44 : decode cX4_release 44 = .ok (.aload_n 0, 1) := by decide +kernel
theorem dX4_release_45 : decode cX4_release 45 = .ok (.getfield 12, 3) := by decide +kernel
theorem dX4_release_48 : decode cX4_release 48 = .ok (.iload 4, 2) := by decide +kernel
theorem dX4_release_50 : decode cX4_release 50 = .ok (.invokevirtual 89, 3) := by decide +kernel
theorem dX4_release_53 : decode cX4_release 53 = .ok (.iadd, 1) := by decide +kernel
theorem dX4_release_54 : decode cX4_release 54 = .ok (.iadd, 1) := by decide +kernel
theorem dX4_release_55 : decode cX4_release 55 = .ok (.istore_n 3, 1) := by decide +kernel
theorem dX4_release_56 : decode cX4_release 56 = .ok (.aload_n 0, 1) := by decide +kernel
theorem dX4_release_57 : decode cX4_release 57 = .ok (.getfield 12, 3) := by decide +kernel
theorem dX4_release_60 : decode cX4_release 60 = .ok (.iload_n 1, 1) := by decide +kernel
theorem dX4_release_61 : decode cX4_release 61 = .ok (.invokevirtual 193, 3) := by decide +kernel
theorem dX4_release_64 : decode cX4_release 64 = .ok (.ifCond .eq 33, 3) := by decide +kernel
theorem dX4_release_67 : decode cX4_release 67 = .ok (.aload_n 0, 1) := by decide +kernel
theorem dX4_release_68 : decode cX4_release 68 = .ok (.getfield 12, 3) := by decide +kernel
theorem dX4_release_71 : decode cX4_release 71 = .ok (.iload_n 1, 1) := by decide +kernel
theorem dX4_release_72 : decode cX4_release 72 = .ok (.invokevirtual 196, 3) := by decide +kernel
theorem dX4_release_75 : decode cX4_release 75 = .ok (.istore_n 2, 1) := by decide +kernel
theorem dX4_release_76 : decode cX4_release 76 = .ok (.aload_n 0, 1) := by decide +kernel
theorem dX4_release_77 : decode cX4_release 77 = .ok (.getfield 21, 3) := by decide +kernel
theorem dX4_release_80 : decode cX4_release 80 = .ok (.iload_n 2, 1) := by decide +kernel
theorem dX4_release_81 : decode cX4_release 81 = .ok (.invokevirtual 184, 3) := by decide +kernel
theorem dX4_release_84 : decode cX4_release 84 = .ok (.iload_n 3, 1) := by decide +kernel
theorem dX4_release_85 : decode cX4_release 85 = .ok (.iconst 1, 1) := by decide +kernel
theorem dX4_release_86 : decode cX4_release 86 = .ok (.aload_n 0, 1) := by decide +kernel
theorem dX4_release_87 : decode cX4_release 87 = .ok (.getfield 12, 3) := by decide +kernel
theorem dX4_release_90 : decode cX4_release 90 = .ok (.iload_n 2, 1) := by decide +kernel
theorem dX4_release_91 : decode cX4_release 91 = .ok (.invokevirtual 89, 3) := by decide +kernel
theorem dX4_release_94 : decode cX4_release 94 = .ok (.iadd, 1) := by decide +kernel
theorem dX4_release_95 : decode cX4_release 95 = .ok (.iadd, 1) := by decide +kernel
theorem dX4_release_96 : decode cX4_release 96 = .ok (.istore_n 3, 1) := by decide +kernel
theorem dX4_release_97 : decode cX4_release 97 = .ok (.aload_n 0, 1) := by decide +kernel
theorem dX4_release_98 : decode cX4_release 98 = .ok (.iload_n 2, 1) := by decide +kernel
theorem dX4_release_99 : decode cX4_release 99 = .ok (.iload_n 3, 1) := by decide +kernel
theorem dX4_release_100 : decode cX4_release 100 = .ok (.invokevirtual 170, 3) := by decide +kernel
theorem dX4_release_103 : decode cX4_release 103 = .ok (.iload_n 3, 1) := by decide +kernel
theorem dX4_release_104 : decode cX4_release 104 = .ok (.ireturn, 1) := by decide +kernel
theorem dX4_makeFree_0 : decode cX4_makeFree 0 = .ok (.aload_n 0, 1) := by decide +kernel
theorem dX4_makeFree_1 : decode cX4_makeFree 1 = .ok (.getfield 12, 3) := by decide +kernel
theorem dX4_makeFree_4 : decode cX4_makeFree 4 = .ok (.iload_n 1, 1) := by decide +kernel
theorem dX4_makeFree_5 : decode cX4_makeFree 5 = .ok (.iload_n 2, 1) := by decide +kernel
theorem dX4_makeFree_6 : decode cX4_makeFree 6 = .ok (.iconst 1, 1) := by decide +kernel
theorem dX4_makeFree_7 : decode cX4_makeFree 7 = .ok (.invokevirtual 108, 3) := by decide +kernel
theorem dX4_makeFree_10 : decode cX4_makeFree 10 = .ok (.aload_n 0, 1) := by decide +kernel
theorem dX4_makeFree_11 : decode cX4_makeFree 11 = .ok (.getfield 12, 3) := by decide +kernel
theorem dX4_makeFree_14 : decode cX4_makeFree 14 = .ok (.iload_n 1, 1) := by decide +kernel
theorem dX4_makeFree_15 : decode cX4_makeFree 15 = .ok (.iload_n 2, 1) := by decide +kernel
theorem dX4_makeFree_16 : decode cX4_makeFree 16 = .ok (.iadd, 1) := by decide +kernel
theorem dX4_makeFree_17 : decode cX4_makeFree 17 = .ok (.iload_n 2, 1) := by decide +kernel
theorem dX4_makeFree_18 : decode cX4_makeFree 18 = .ok (.i2l, 1) := by decide +kernel
theorem dX4_makeFree_19 : decode cX4_makeFree 19 = .ok (.invokevirtual 112, 3) := by decide +kernel
theorem dX4_makeFree_22 : decode cX4_makeFree 22 = .ok (.aload_n 0, 1) := by decide +kernel
theorem dX4_makeFree_23 : decode cX4_makeFree 23 = .ok (.getfield 21, 3) := by decide +kernel
theorem dX4_makeFree_26 : decode cX4_makeFree 26 = .ok (.iload_n 1, 1) := by decide +kernel
theorem dX4_makeFree_27 : decode cX4_makeFree 27 = .ok (.invokevirtual 199, 3) := by decide +kernel
theorem dX4_makeFree_30 : decode cX4_makeFree 30 = .ok (.aload_n 0, 1) := by decide +kernel
theorem dX4_makeFree_31 : decode cX4_makeFree 31 = .ok (.getfield 12, 3) := by decide +kernel
theorem dX4_makeFree_34 : decode cX4_makeFree 34 = .ok (.iload_n 1, 1) := by decide +kernel
theorem dX4_makeFree_35 : decode cX4_makeFree 35 = .ok (.invokevirtual 187, 3) := by decide +kernel
theorem dX4_makeFree_38 : decode cX4_makeFree 38 = .ok (.return_, 1) := by decide +kernel
theorem dX4_bodyWithBehind_0 : decode cX4_bodyWithBehind 0 = .ok (.aload_n 0, 1) := by decide +kernel
theorem dX4_bodyWithBehind_1 : decode cX4_bodyWithBehind 1 = .ok (.getfield 12, 3) := by decide +kernel
theorem dX4_bodyWithBehind_4 : decode cX4_bodyWithBehind 4 = .ok (.iload_n 1, 1) := by decide +kernel
theorem dX4_bodyWithBehind_5 : decode cX4_bodyWithBehind 5 = .ok (.invokevirtual 89, 3) := by decide +kernel
theorem dX4_bodyWithBehind_8 : decode cX4_bodyWithBehind 8 = .ok (.istore_n 2, 1) := by decide +kernel
theorem dX4_bodyWithBehind_9 : decode cX4_bodyWithBehind 9 = .ok (.aload_n 0, 1) := by decide +kernel
theorem dX4_bodyWithBehind_10 : decode cX4_bodyWithBehind 10 = .ok (.getfield 12, 3) := by decide +kernel
theorem dX4_bodyWithBehind_13 : decode cX4_bodyWithBehind 13 = .ok (.iload_n 1, 1) := by decide +kernel
theorem dX4_bodyWithBehind_14 : decode cX4_bodyWithBehind 14 = .ok (.invokevirtual 181, 3) := by decide +kernel
theorem dX4_bodyWithBehind_17 : decode cX4_bodyWithBehind 17 = .ok (.istore_n 3, 1) := by decide +kernel
theorem dX4_bodyWithBehind_18 : decode cX4_bodyWithBehind 18 = .ok (.aload_n 0, 1) := by decide +kernel
theorem dX4_bodyWithBehind_19 : decode cX4_bodyWithBehind 19 = .ok (.getfield 12, 3) := by decide +kernel
theorem dX4_bodyWithBehind_22 : decode cX4_bodyWithBehind 22 = .ok (.iload_n 3, 1) := by decide +kernel
theorem dX4_bodyWithBehind_23 : decode cX4_bodyWithBehind 23 = .ok (.invokevirtual 105, 3) := by decide +kernel
theorem dX4_bodyWithBehind_26 : decode cX4_bodyWithBehind 26 = .ok (.ifCond .eq 18, 3) := by decide +kernel
theorem dX4_bodyWithBehind_29 : decode cX4_bodyWithBehind 29 = .ok (.iload_n 2, 1) := by decide +kernel
theorem dX4_bodyWithBehind_30 : decode cX4_bodyWithBehind 30 = .ok (.iconst 1, 1) := by decide +kernel
theorem dX4_bodyWithBehind_31 : decode cX4_bodyWithBehind 31 = .ok (.iadd, 1) := by decide +kernel
theorem dX4_bodyWithBehind_32 : decode cX4_bodyWithBehind 32 = .ok (.aload_n 0, 1) := by decide +kernel
theorem dX4_bodyWithBehind_33 : decode cX4_bodyWithBehind 33 = .ok (.getfield 12, 3) := by decide +kernel
theorem dX4_bodyWithBehind_36 : decode cX4_bodyWithBehind 36 = .ok (.iload_n 3, 1) := by decide +kernel
theorem dX4_bodyWithBehind_37 : decode cX4_bodyWithBehind 37 = .ok (.invokevirtual 89, 3) := by decide +kernel
theorem dX4_bodyWithBehind_40 : decode cX4_bodyWithBehind 40 = .ok (.iadd, 1) := by decide +kernel
theorem dX4_bodyWithBehind_41 : decode cX4_bodyWithBehind 41 = .ok (.goto 4, 3) := by decide +kernel
theorem dX4_bodyWithBehind_44 : decode cX4_bodyWithBehind 44 = .ok (.iload_n 2, 1) := by decide +kernel
theorem dX4_bodyWithBehind_45 : decode cX4_bodyWithBehind 45 = .ok (.ireturn, 1) := by decide +kernel
theorem dX4_joinBehind_0 : decode cX4_joinBehind 0 = .ok (.aload_n 0, 1) := by decide +kernel
theorem dX4_joinBehind_1 : decode cX4_joinBehind 1 = .ok (.getfield 12, 3) := by decide +kernel
theorem dX4_joinBehind_4 : decode cX4_joinBehind 4 = .ok (.iload_n 1, 1) := by decide +kernel
theorem dX4_joinBehind_5 : decode cX4_joinBehind 5 = .ok (.invokevirtual 181, 3) := by decide +kernel
theorem dX4_joinBehind_8 : decode cX4_joinBehind 8 = .ok (.istore_n 2, 1) := by decide +kernel
theorem dX4_joinBehind_9 : decode cX4_joinBehind 9 = .ok (.aload_n 0, 1) := by decide +kernel
theorem dX4_joinBehind_10 : decode cX4_joinBehind 10 = .ok (.getfield 21, 3) := by decide +kernel
theorem dX4_joinBehind_13 : decode cX4_joinBehind 13 = .ok (.iload_n 2, 1) := by decide +kernel
theorem dX4_joinBehind_14 : decode cX4_joinBehind 14 = .ok (.invokevirtual 184, 3) := by decide +kernel
theorem dX4_joinBehind_17 : decode cX4_joinBehind 17 = .ok (.aload_n 0, 1) := by decide +kernel
theorem dX4_joinBehind_18 : decode cX4_joinBehind 18 = .ok (.getfield 12, 3) := by decide +kernel
theorem dX4_joinBehind_21 : decode cX4_joinBehind 21 = .ok (.iload_n 1, 1) := by decide +kernel
theorem dX4_joinBehind_22 : decode cX4_joinBehind 22 = .ok (.aload_n 0, 1) := by decide +kernel
theorem dX4_joinBehind_23 : decode cX4_joinBehind 23 = .ok (.getfield 12, 3) := by decide +kernel
theorem dX4_joinBehind_26 : decode cX4_joinBehind 26 = .ok (.iload_n 1, 1) := by decide +kernel
theorem dX4_joinBehind_27 : decode cX4_joinBehind 27 = .ok (.invokevirtual 89, 3) := by decide +kernel
theorem dX4_joinBehind_30 : decode cX4_joinBehind 30 = .ok (.iconst 1, 1) := by decide +kernel
theorem dX4_joinBehind_31 : decode cX4_joinBehind 31 = .ok (.iadd, 1) := by decide +kernel
theorem dX4_joinBehind_32 : decode cX4_joinBehind 32 = .ok (.aload_n 0, 1) := by decide +kernel
theorem dX4_joinBehind_33 : decode cX4_joinBehind 33 = .ok (.getfield 12, 3) := by decide +kernel
theorem dX4_joinBehind_36 : decode cX4_joinBehind 36 = .ok (.iload_n 2, 1) := by decide +kernel
theorem dX4_joinBehind_37 : decode cX4_joinBehind 37 = .ok (.invokevirtual 89, 3) := by decide +kernel
theorem dX4_joinBehind_40 : decode cX4_joinBehind 40 = .ok (.iadd, 1) := by decide +kernel
theorem dX4_joinBehind_41 : decode cX4_joinBehind 41 = .ok (.invokevirtual 190, 3) := by decide +kernel
theorem dX4_joinBehind_44 : decode cX4_joinBehind 44 = .ok (.aload_n 0, 1) := by decide +kernel
theorem dX4_joinBehind_45 : decode cX4_joinBehind 45 = .ok (.getfield 12, 3) := by decide +kernel
theorem dX4_joinBehind_48 : decode cX4_joinBehind 48 = .ok (.iload_n 1, 1) := by decide +kernel
theorem dX4_joinBehind_49 : decode cX4_joinBehind 49 = .ok (.invokevirtual 187, 3) := by decide +kernel
theorem dX4_joinBehind_52 : decode cX4_joinBehind 52 = .ok (.return_, 1) := by decide +kernel
theorem dX4_copyBody_0 : decode cX4_copyBody 0 = .ok (.aload_n 0, 1) := by decide +kernel
theorem dX4_copyBody_1 : decode cX4_copyBody 1 = .ok (.getfield 12, 3) := by decide +kernel
theorem dX4_copyBody_4 : decode cX4_copyBody 4 = .ok (.iload_n 1, 1) := by decide +kernel
theorem dX4_copyBody_5 : decode cX4_copyBody 5 = .ok (.invokevirtual 89, 3) := by decide +kernel
theorem dX4_copyBody_8 : decode cX4_copyBody 8 = .ok (.sipush 2048, 3) := by decide +kernel
theorem dX4_copyBody_11 : decode cX4_copyBody 11 = .ok (.invokestatic 202, 3) := by decide +kernel
theorem dX4_copyBody_14 : decode cX4_copyBody 14 = .ok (.istore_n 3, 1) := by decide +kernel
theorem dX4_copyBody_15 : decode cX4_copyBody 15 = .ok (.iconst 1, 1) := by decide +kernel
theorem dX4_copyBody_16 : decode cX4_copyBody 16 = .ok (.istore 4, 2) := by decide +kernel
theorem dX4_copyBody_18 : decode cX4_copyBody 18 = .ok (.iload 4, 2) := by decide +kernel
theorem dX4_copyBody_20 : decode cX4_copyBody 20 = .ok (.iload_n 3, 1) := by decide +kernel
theorem dX4_copyBody_21 : decode cX4_copyBody 21 = .ok (.if_icmp .gt 31, 3) := by decide +kernel
theorem dX4_copyBody_24 : decode cX4_copyBody 24 = .ok (.aload_n 0, 1) := by decide +kernel
theorem dX4_copyBody_25 : decode cX4_copyBody 25 = .ok (.getfield 12, 3) := by decide +kernel
theorem dX4_copyBody_28 : decode cX4_copyBody 28 = .ok (.iload_n 2, 1) := by decide +kernel
theorem dX4_copyBody_29 : decode cX4_copyBody 29 = .ok (.iload 4, 2) := by decide +kernel
theorem dX4_copyBody_31 : decode cX4_copyBody 31 = .ok (.iadd, 1) := by decide +kernel
theorem dX4_copyBody_32 : decode cX4_copyBody 32 = .ok (.aload_n 0, 1) := by decide +kernel
theorem dX4_copyBody_33 : decode cX4_copyBody 33 = .ok (.getfield 12, 3) := by decide +kernel
theorem dX4_copyBody_36 : decode cX4_copyBody 36 = .ok (.iload_n 1, 1) := by decide +kernel
theorem dX4_copyBody_37 : decode cX4_copyBody 37 = .ok (.iload 4, 2) := by decide +kernel
theorem dX4_copyBody_39 : decode cX4_copyBody 39 = .ok (.iadd, 1) := by decide +kernel
theorem dX4_copyBody_40 : decode cX4_copyBody 40 = .ok (.invokevirtual 116, 3) := by decide +kernel
theorem dX4_copyBody_43 : decode cX4_copyBody 43 = .ok (.invokevirtual 112, 3) := by decide +kernel
theorem dX4_copyBody_46 : decode cX4_copyBody 46 = .ok (.iinc 4 1, 3) := by decide +kernel
theorem dX4_copyBody_49 : decode cX4_copyBody 49 = .ok (.goto (-31), 3) := by decide +kernel
theorem dX4_copyBody_52 : decode cX4_copyBody 52 = .ok (.return_, 1) := by decide +kernel
end
section
theorem dX5_init_0 : decode cX5_init 0 = .ok (.aload_n 0, 1) := by decide +kernel
theorem dX5_init_1 : decode cX5_init 1 = .ok (.invokespecial 1, 3) := by decide +kernel
theorem dX5_init_4 : decode cX5_init 4 = .ok (.aload_n 0, 1) := by decide +kernel
theorem dX5_init_5 : decode cX5_init 5 = .ok (.sipush 2048, 3) := by decide +kernel
theorem dX5_init_8 : decode cX5_init 8 = .ok (.newarray .long, 2) := by decide +kernel
theorem dX5_init_10 : decode cX5_init 10 = .ok (.putfield 7, 3) := by decide +kernel
theorem dX5_init_13 : decode cX5_init 13 = .ok (.aload_n 0, 1) := by decide +kernel
theorem dX5_init_14 : decode cX5_init 14 = .ok (.bipush 72, 2) := by decide +kernel
theorem dX5_init_16 : decode cX5_init 16 = .ok (.newarray .int, 2) := by decide +kernel
theorem dX5_init_18 : decode cX5_init 18 = .ok (.putfield 13, 3) := by decide +kernel
theorem dX5_init_21 : decode cX5_init 21 = .ok (.aload_n 0, 1) := by decide +kernel
theorem dX5_init_22 : decode cX5_init 22 = .ok (.iconst (-1), 1) := by decide +kernel
theorem dX5_init_23 : decode cX5_init 23 = .ok (.putfield 17, 3) := by decide +kernel
theorem dX5_init_26 : decode cX5_init 26 = .ok (.aload_n 0, 1) := by decide +kernel
theorem dX5_init_27 : decode cX5_init 27 = .ok (.sipush 2049, 3) := by decide +kernel
theorem dX5_init_30 : decode cX5_init 30 = .ok (.newarray .boolean, 2) := by decide +kernel
theorem dX5_init_32 : decode cX5_init 32 = .ok (.putfield 21, 3) := by decide +kernel
theorem dX5_init_35 : decode cX5_init 35 = .ok (.aload_n 0, 1) := by decide +kernel
theorem dX5_init_36 : decode cX5_init 36 = .ok (.sipush 2049, 3) := by decide +kernel
theorem dX5_init_39 : decode cX5_init 39 = .ok (.newarray .boolean, 2) := by decide +kernel
theorem dX5_init_41 : decode cX5_init 41 = .ok (.putfield 25, 3) := by decide +kernel
theorem dX5_init_44 : decode cX5_init 44 = .ok (.aload_n 0, 1) := by decide +kernel
theorem dX5_init_45 : decode cX5_init 45 = .ok (.bipush 64, 2) := by decide +kernel
theorem dX5_init_47 : decode cX5_init 47 = .ok (.invokevirtual 28, 3) := by decide +kernel
theorem dX5_init_50 : decode cX5_init 50 = .ok (.return_, 1) := by decide +kernel
theorem dX5_in_0 : decode cX5_in 0 = .ok (.lload_n 0, 1) := by decide +kernel
theorem dX5_in_1 : decode cX5_in 1 = .ok (.lload_n 2, 1) := by decide +kernel
theorem dX5_in_2 : decode cX5_in 2 = .ok (.lcmp, 1) := by decide +kernel
theorem dX5_in_3 : decode cX5_in 3 = .ok (.ifCond .lt 14, 3) := by decide +kernel
theorem dX5_in_6 : decode cX5_in 6 = .ok (.lload_n 0, 1) := by decide +kernel
theorem dX5_in_7 : decode cX5_in 7 = .ok (.lload 4, 2) := by decide +kernel
theorem dX5_in_9 : decode cX5_in 9 = .ok (.lcmp, 1) := by decide +kernel
theorem dX5_in_10 : decode cX5_in 10 = .ok (.ifCond .gt 7, 3) := by decide +kernel
theorem dX5_in_13 : decode cX5_in 13 = .ok (.iconst 1, 1) := by decide +kernel
theorem dX5_in_14 : decode cX5_in 14 = .ok (.goto 4, 3) := by decide +kernel
theorem dX5_in_17 : decode cX5_in 17 = .ok (.iconst 0, 1) := by decide +kernel
theorem dX5_in_18 : decode cX5_in 18 = .ok (.ireturn, 1) := by decide +kernel
theorem dX5_lay_0 : decode cX5_lay 0 = .ok (.iconst 0, 1) := by decide +kernel
theorem dX5_lay_1 : decode cX5_lay 1 = .ok (.istore_n 2, 1) := by decide +kernel
theorem dX5_lay_2 : decode cX5_lay 2 = .ok (.iload_n 2, 1) := by decide +kernel
theorem dX5_lay_3 : decode cX5_lay 3 = .ok (.sipush 2048, 3) := by decide +kernel
theorem dX5_lay_6 : decode cX5_lay 6 = .ok (.if_icmp .ge 16, 3) := by decide +kernel
theorem dX5_lay_9 : decode cX5_lay 9 = .ok (.aload_n 0, 1) := by decide +kernel
theorem dX5_lay_10 : decode cX5_lay 10 = .ok (.getfield 7, 3) := by decide +kernel
theorem dX5_lay_13 : decode cX5_lay 13 = .ok (.iload_n 2, 1) := by decide +kernel
theorem dX5_lay_14 : decode cX5_lay 14 = .ok (.lconst 0, 1) := by decide +kernel
theorem dX5_lay_15 : decode cX5_lay 15 = .ok (.lastore, 1) := by decide +kernel
theorem dX5_lay_16 : decode cX5_lay 16 = .ok (.iinc 2 1, 3) := by decide +kernel
theorem dX5_lay_19 : decode cX5_lay 19 = .ok (.goto (-17), 3) := by decide +kernel
theorem dX5_lay_22 : decode cX5_lay 22 = .ok (.iconst 0, 1) := by decide +kernel
theorem dX5_lay_23 : decode cX5_lay 23 = .ok (.istore_n 2, 1) := by decide +kernel
theorem dX5_lay_24 : decode cX5_lay 24 = .ok (.iload_n 2, 1) := by decide +kernel
theorem dX5_lay_25 : decode cX5_lay 25 = .ok (.bipush 72, 2) := by decide +kernel
theorem dX5_lay_27 : decode cX5_lay 27 = .ok (.if_icmp .ge 16, 3) := by decide +kernel
theorem dX5_lay_30 : decode cX5_lay 30 = .ok (.aload_n 0, 1) := by decide +kernel
theorem dX5_lay_31 : decode cX5_lay 31 = .ok (.getfield 13, 3) := by decide +kernel
theorem dX5_lay_34 : decode cX5_lay 34 = .ok (.iload_n 2, 1) := by decide +kernel
theorem dX5_lay_35 : decode cX5_lay 35 = .ok (.iconst 0, 1) := by decide +kernel
theorem dX5_lay_36 : decode cX5_lay 36 = .ok (.iastore, 1) := by decide +kernel
theorem dX5_lay_37 : decode cX5_lay 37 = .ok (.iinc 2 1, 3) := by decide +kernel
theorem dX5_lay_40 : decode cX5_lay 40 = .ok (.goto (-16), 3) := by decide +kernel
theorem dX5_lay_43 : decode cX5_lay 43 = .ok (.aload_n 0, 1) := by decide +kernel
theorem dX5_lay_44 : decode cX5_lay 44 = .ok (.iload_n 1, 1) := by decide +kernel
theorem dX5_lay_45 : decode cX5_lay 45 = .ok (.putfield 32, 3) := by decide +kernel
theorem dX5_lay_48 : decode cX5_lay 48 = .ok (.aload_n 0, 1) := by decide +kernel
theorem dX5_lay_49 : decode cX5_lay 49 = .ok (.iconst 0, 1) := by decide +kernel
theorem dX5_lay_50 : decode cX5_lay 50 = .ok (.putfield 35, 3) := by decide +kernel
theorem dX5_lay_53 : decode cX5_lay 53 = .ok (.aload_n 0, 1) := by decide +kernel
theorem dX5_lay_54 : decode cX5_lay 54 = .ok (.iconst 0, 1) := by decide +kernel
theorem dX5_lay_55 : decode cX5_lay 55 = .ok (.putfield 39, 3) := by decide +kernel
theorem dX5_lay_58 : decode cX5_lay 58 = .ok (.aload_n 0, 1) := by decide +kernel
theorem dX5_lay_59 : decode cX5_lay 59 = .ok (.iconst (-1), 1) := by decide +kernel
theorem dX5_lay_60 : decode cX5_lay 60 = .ok (.putfield 17, 3) := by decide +kernel
theorem dX5_lay_63 : decode cX5_lay 63 = .ok (.aload_n 0, 1) := by decide +kernel
theorem dX5_lay_64 : decode cX5_lay 64 = .ok (.iconst 1, 1) := by decide +kernel
theorem dX5_lay_65 : decode cX5_lay 65 = .ok (.iload_n 1, 1) := by decide +kernel
theorem dX5_lay_66 : decode cX5_lay 66 = .ok (.iconst 1, 1) := by decide +kernel
theorem dX5_lay_67 : decode cX5_lay 67 = .ok (.isub, 1) := by decide +kernel
theorem dX5_lay_68 : decode cX5_lay 68 = .ok (.lconst 0, 1) := by decide +kernel
theorem dX5_lay_69 : decode cX5_lay 69 = .ok (.invokevirtual 42, 3) := by decide +kernel
theorem dX5_lay_72 : decode cX5_lay 72 = .ok (.aload_n 0, 1) := by decide +kernel
theorem dX5_lay_73 : decode cX5_lay 73 = .ok (.iconst 0, 1) := by decide +kernel
theorem dX5_lay_74 : decode cX5_lay 74 = .ok (.putfield 46, 3) := by decide +kernel
theorem dX5_lay_77 : decode cX5_lay 77 = .ok (.return_, 1) := by decide +kernel
theorem dX5_open_0 : decode cX5_open 0 = .ok (.iload_n 1, 1) := by decide +kernel
theorem dX5_open_1 : decode cX5_open 1 = .ok (.i2l, 1) := by decide +kernel
theorem dX5_open_2 : decode cX5_open 2 = .ok (.ldc2_w 49, 3) := by decide +kernel
theorem dX5_open_5 : decode cX5_open 5 = .ok (.ldc2_w 51, 3) := by decide +kernel
theorem dX5_open_8 : decode cX5_open 8 = .ok (.invokestatic 53, 3) := by decide +kernel
theorem dX5_open_11 : decode cX5_open 11 = .ok (.ifCond .ne 6, 3) := by decide +kernel
theorem dX5_open_14 : decode cX5_open 14 = .ok (.bipush (-2), 2) := by decide +kernel
theorem dX5_open_16 : decode cX5_open 16 = .ok (.ireturn, 1) := by decide +kernel
theorem dX5_open_17 : decode cX5_open 17 = .ok (.aload_n 0, 1) := by decide +kernel
theorem dX5_open_18 : decode cX5_open 18 = .ok (.iload_n 1, 1) := by decide +kernel
theorem dX5_open_19 : decode cX5_open 19 = .ok (.invokevirtual 28, 3) := by decide +kernel
theorem dX5_open_22 : decode cX5_open 22 = .ok (.iconst 1, 1) := by decide +kernel
theorem dX5_open_23 : decode cX5_open 23 = .ok (.ireturn, 1) := by decide +kernel
theorem dX5_classIn_0 : decode cX5_classIn 0 = .ok (.iload_n 0, 1) := by decide +kernel
theorem dX5_classIn_1 : decode cX5_classIn 1 = .ok (.bipush 8, 2) := by decide +kernel
theorem dX5_classIn_3 : decode cX5_classIn 3 = .ok (.if_icmp .ge 5, 3) := by decide +kernel
theorem dX5_classIn_6 : decode cX5_classIn 6 = .ok (.iload_n 0, 1) := by decide +kernel
theorem dX5_classIn_7 : decode cX5_classIn 7 = .ok (.ireturn, 1) := by decide +kernel
theorem dX5_classIn_8 : decode cX5_classIn 8 = .ok (.iconst 3, 1) := by decide +kernel
theorem dX5_classIn_9 : decode cX5_classIn 9 = .ok (.istore_n 1, 1) := by decide +kernel
theorem dX5_classIn_10 : decode cX5_classIn 10 = .ok (.iload_n 0, 1) := by decide +kernel
theorem dX5_classIn_11 : decode cX5_classIn 11 = .ok (.iload_n 1, 1) := by decide +kernel
theorem dX5_classIn_12 : decode cX5_classIn 12 = .ok (.iconst 1, 1) := by decide +kernel
theorem dX5_classIn_13 : decode cX5_classIn 13 = .ok (.iadd, 1) := by decide +kernel
theorem dX5_classIn_14 : decode cX5_classIn 14 = .ok (.ishr, 1) := by decide +kernel
theorem dX5_classIn_15 : decode cX5_classIn 15 = .ok (.ifCond .le 9, 3) := by decide +kernel
theorem dX5_classIn_18 : decode cX5_classIn 18 = .ok (.iinc 1 1, 3) := by decide +kernel
theorem dX5_classIn_21 : decode cX5_classIn 21 = .ok (.goto (-11), 3) := by decide +kernel
theorem dX5_classIn_24 : decode cX5_classIn 24 = .ok (.bipush 8, 2) := by decide +kernel
theorem dX5_classIn_26 : decode cX5_classIn 26 = .ok (.iload_n 1, 1) := by decide +kernel
theorem dX5_classIn_27 : decode cX5_classIn 27 = .ok (.iconst 2, 1) := by decide +kernel
theorem dX5_classIn_28 : decode cX5_classIn 28 = .ok (.isub, 1) := by decide +kernel
theorem dX5_classIn_29 : decode cX5_classIn 29 = .ok (.imul, 1) := by decide +kernel
theorem dX5_classIn_30 : decode cX5_classIn 30 = .ok (.iload_n 0, 1) := by decide +kernel
theorem dX5_classIn_31 : decode cX5_classIn 31 = .ok (.iload_n 1, 1) := by decide +kernel
theorem dX5_classIn_32 : decode cX5_classIn 32 = .ok (.iconst 3, 1) := by decide +kernel
theorem dX5_classIn_33 : decode cX5_classIn 33 = .ok (.isub, 1) := by decide +kernel
theorem dX5_classIn_34 : decode cX5_classIn 34 = .ok (.ishr, 1) := by decide +kernel
theorem dX5_classIn_35 : decode cX5_classIn 35 = .ok (.iadd, 1) := by decide +kernel
theorem dX5_classIn_36 : decode cX5_classIn 36 = .ok (.bipush 8, 2) := by decide +kernel
theorem dX5_classIn_38 : decode cX5_classIn 38 = .ok (.isub, 1) := by decide +kernel
theorem dX5_classIn_39 : decode cX5_classIn 39 = .ok (.ireturn, 1) := by decide +kernel
theorem dX5_wishIn_0 : decode cX5_wishIn 0 = .ok (.iload_n 0, 1) := by decide +kernel
theorem dX5_wishIn_1 : decode cX5_wishIn 1 = .ok (.bipush 8, 2) := by decide +kernel
theorem dX5_wishIn_3 : decode cX5_wishIn 3 = .ok (.if_icmp .ge 14, 3) := by decide +kernel
theorem dX5_wishIn_6 : decode cX5_wishIn 6 = .ok (.iload_n 0, 1) := by decide +kernel
theorem dX5_wishIn_7 : decode cX5_wishIn 7 = .ok (.iconst 3, 1) := by decide +kernel
theorem dX5_wishIn_8 : decode cX5_wishIn 8 = .ok (.if_icmp .ge 7, 3) := by decide +kernel
theorem dX5_wishIn_11 : decode cX5_wishIn 11 = .ok (.iconst 3, 1) := by decide +kernel
theorem dX5_wishIn_12 : decode cX5_wishIn 12 = .ok (.goto 4, 3) := by decide +kernel
theorem dX5_wishIn_15 : decode cX5_wishIn 15 = .ok (.iload_n 0, 1) := by decide +kernel
theorem dX5_wishIn_16 : decode cX5_wishIn 16 = .ok (.ireturn, 1) := by decide +kernel
theorem dX5_wishIn_17 : decode cX5_wishIn 17 = .ok (.iconst 3, 1) := by decide +kernel
theorem dX5_wishIn_18 : decode cX5_wishIn 18 = .ok (.istore_n 1, 1) := by decide +kernel
theorem dX5_wishIn_19 : decode cX5_wishIn 19 = .ok (.iload_n 0, 1) := by decide +kernel
theorem dX5_wishIn_20 : decode cX5_wishIn 20 = .ok (.iload_n 1, 1) := by decide +kernel
theorem dX5_wishIn_21 : decode cX5_wishIn 21 = .ok (.iconst 1, 1) := by decide +kernel
theorem dX5_wishIn_22 : decode cX5_wishIn 22 = .ok (.iadd, 1) := by decide +kernel
theorem dX5_wishIn_23 : decode cX5_wishIn 23 = .ok (.ishr, 1) := by decide +kernel
theorem dX5_wishIn_24 : decode cX5_wishIn 24 = .ok (.ifCond .le 9, 3) := by decide +kernel
theorem dX5_wishIn_27 : decode cX5_wishIn 27 = .ok (.iinc 1 1, 3) := by decide +kernel
theorem dX5_wishIn_30 : decode cX5_wishIn 30 = .ok (.goto (-11), 3) := by decide +kernel
theorem dX5_wishIn_33 : decode cX5_wishIn 33 = .ok (.iload_n 0, 1) := by decide +kernel
theorem dX5_wishIn_34 : decode cX5_wishIn 34 = .ok (.iconst 1, 1) := by decide +kernel
theorem dX5_wishIn_35 : decode cX5_wishIn 35 = .ok (.iload_n 1, 1) := by decide +kernel
theorem dX5_wishIn_36 : decode cX5_wishIn 36 = .ok (.iconst 3, 1) := by decide +kernel
theorem dX5_wishIn_37 : decode cX5_wishIn 37 = .ok (.isub, 1) := by decide +kernel
theorem dX5_wishIn_38 : decode cX5_wishIn 38 = .ok (.ishl, 1) := by decide +kernel
theorem dX5_wishIn_39 : decode cX5_wishIn 39 = .ok (.iadd, 1) := by decide +kernel
theorem dX5_wishIn_40 : decode cX5_wishIn 40 = .ok (.iconst 1, 1) := by decide +kernel
theorem dX5_wishIn_41 : decode cX5_wishIn 41 = .ok (.isub, 1) := by decide +kernel
theorem dX5_wishIn_42 : decode cX5_wishIn 42 = .ok (.invokestatic 57, 3) := by decide +kernel
theorem dX5_wishIn_45 : decode cX5_wishIn 45 = .ok (.ireturn, 1) := by decide +kernel
theorem dX5_classOf_0 : decode cX5_classOf 0 = .ok (.iload_n 1, 1) := by decide +kernel
theorem dX5_classOf_1 : decode cX5_classOf 1 = .ok (.i2l, 1) := by decide +kernel
theorem dX5_classOf_2 : decode cX5_classOf 2 = .ok (.lconst 1, 1) := by decide +kernel
theorem dX5_classOf_3 : decode cX5_classOf 3 = .ok (.ldc2_w 61, 3) := by decide +kernel
theorem dX5_classOf_6 : decode cX5_classOf 6 = .ok (.invokestatic 53, 3) := by decide +kernel
theorem dX5_classOf_9 : decode cX5_classOf 9 = .ok (.ifCond .ne 8, 3) := by decide +kernel
theorem dX5_classOf_12 : decode cX5_classOf 12 = .ok (.bipush (-2), 2) := by decide +kernel
theorem dX5_classOf_14 : decode cX5_classOf 14 = .ok (.goto 18, 3) := by decide +kernel
theorem dX5_classOf_17 : decode cX5_classOf 17 = .ok (.iload_n 2, 1) := by decide +kernel
theorem dX5_classOf_18 : decode cX5_classOf 18 = .ok (.ifCond .eq 10, 3) := by decide +kernel
theorem dX5_classOf_21 : decode cX5_classOf 21 = .ok (.iload_n 1, 1) := by decide +kernel
theorem dX5_classOf_22 : decode cX5_classOf 22 = .ok (.invokestatic 63, 3) := by decide +kernel
theorem dX5_classOf_25 : decode cX5_classOf 25 = .ok (.goto 7, 3) := by decide +kernel
theorem dX5_classOf_28 : decode cX5_classOf 28 = .ok (.iload_n 1, 1) := by decide +kernel
theorem dX5_classOf_29 : decode cX5_classOf 29 = .ok (.invokestatic 57, 3) := by decide +kernel
theorem dX5_classOf_32 : decode cX5_classOf 32 = .ok (.ireturn, 1) := by decide +kernel
theorem dX5_lookFor_0 : decode cX5_lookFor 0 = .ok (.iload_n 1, 1) := by decide +kernel
theorem dX5_lookFor_1 : decode cX5_lookFor 1 = .ok (.invokestatic 63, 3) := by decide +kernel
theorem dX5_lookFor_4 : decode cX5_lookFor 4 = .ok (.istore_n 2, 1) := by decide +kernel
theorem dX5_lookFor_5 : decode cX5_lookFor 5 = .ok (.iload_n 2, 1) := by decide +kernel
theorem dX5_lookFor_6 : decode cX5_lookFor 6 = .ok (.bipush 72, 2) := by decide +kernel
theorem dX5_lookFor_8 : decode cX5_lookFor 8 = .ok (.if_icmp .ge 25, 3) := by decide +kernel
theorem dX5_lookFor_11 : decode cX5_lookFor 11 = .ok (.aload_n 0, 1) := by decide +kernel
theorem dX5_lookFor_12 : decode cX5_lookFor 12 = .ok (.getfield 13, 3) := by decide +kernel
theorem dX5_lookFor_15 : decode cX5_lookFor 15 = .ok (.iload_n 2, 1) := by decide +kernel
theorem dX5_lookFor_16 : decode cX5_lookFor 16 = .ok (.iaload, 1) := by decide +kernel
theorem dX5_lookFor_17 : decode cX5_lookFor 17 = .ok (.ifCond .eq 10, 3) := by decide +kernel
theorem dX5_lookFor_20 : decode cX5_lookFor 20 = .ok (.aload_n 0, 1) := by decide +kernel
theorem dX5_lookFor_21 : decode cX5_lookFor 21 = .ok (.getfield 13, 3) := by decide +kernel
theorem dX5_lookFor_24 : decode cX5_lookFor 24 = .ok (.iload_n 2, 1) := by decide +kernel
theorem dX5_lookFor_25 : decode cX5_lookFor 25 = .ok (.iaload, 1) := by decide +kernel
theorem dX5_lookFor_26 : decode cX5_lookFor 26 = .ok (.ireturn, 1) := by decide +kernel
theorem dX5_lookFor_27 : decode cX5_lookFor 27 = .ok (.iinc 2 1, 3) := by decide +kernel
theorem dX5_lookFor_30 : decode cX5_lookFor 30 = .ok (.goto (-25), 3) := by decide +kernel
theorem dX5_lookFor_33 : decode cX5_lookFor 33 = .ok (.iconst 0, 1) := by decide +kernel
theorem dX5_lookFor_34 : decode cX5_lookFor 34 = .ok (.ireturn, 1) := by decide +kernel
theorem dX5_words_0 : decode cX5_words 0 = .ok (.aload_n 0, 1) := by decide +kernel
theorem dX5_words_1 : decode cX5_words 1 = .ok (.getfield 7, 3) := by decide +kernel
theorem dX5_words_4 : decode cX5_words 4 = .ok (.iload_n 1, 1) := by decide +kernel
theorem dX5_words_5 : decode cX5_words 5 = .ok (.iconst 1, 1) := by decide +kernel
theorem dX5_words_6 : decode cX5_words 6 = .ok (.isub, 1) := by decide +kernel
theorem dX5_words_7 : decode cX5_words 7 = .ok (.laload, 1) := by decide +kernel
theorem dX5_words_8 : decode cX5_words 8 = .ok (.iconst 2, 1) := by decide +kernel
theorem dX5_words_9 : decode cX5_words 9 = .ok (.lshr, 1) := by decide +kernel
theorem dX5_words_10 : decode cX5_words 10 = .ok (.l2i, 1) := by decide +kernel
theorem dX5_words_11 : decode cX5_words 11 = .ok (.ireturn, 1) := by decide +kernel
theorem dX5_isFree_0 : decode cX5_isFree 0 = .ok (.aload_n 0, 1) := by decide +kernel
theorem dX5_isFree_1 : decode cX5_isFree 1 = .ok (.getfield 7, 3) := by decide +kernel
theorem dX5_isFree_4 : decode cX5_isFree 4 = .ok (.iload_n 1, 1) := by decide +kernel
theorem dX5_isFree_5 : decode cX5_isFree 5 = .ok (.iconst 1, 1) := by decide +kernel
theorem dX5_isFree_6 : decode cX5_isFree 6 = .ok (.isub, 1) := by decide +kernel
theorem dX5_isFree_7 : decode cX5_isFree 7 = .ok (.laload, 1) := by decide +kernel
theorem dX5_isFree_8 : decode cX5_isFree 8 = .ok (.lconst 1, 1) := by decide +kernel
theorem dX5_isFree_9 : decode cX5_isFree 9 = .ok (.land, 1) := by decide +kernel
theorem dX5_isFree_10 : decode cX5_isFree 10 = .ok (.lconst 1, 1) := by decide +kernel
theorem dX5_isFree_11 : decode cX5_isFree 11 = .ok (.lcmp, 1) := by decide +kernel
theorem dX5_isFree_12 : decode cX5_isFree 12 = .ok (.ifCond .ne 7, 3) := by decide +kernel
theorem dX5_isFree_15 : decode cX5_isFree 15 = .ok (.iconst 1, 1) := by decide +kernel
theorem dX5_isFree_16 : decode cX5_isFree 16 = .ok (.goto 4, 3) := by decide +kernel
theorem dX5_isFree_19 : decode cX5_isFree 19 = .ok (.iconst 0, 1) := by decide +kernel
theorem dX5_isFree_20 : decode cX5_isFree 20 = .ok (.ireturn, 1) := by decide +kernel
theorem dX5_behind_0 : decode cX5_behind 0 = .ok (.iload_n 1, 1) := by decide +kernel
theorem dX5_behind_1 : decode cX5_behind 1 = .ok (.aload_n 0, 1) := by decide +kernel
theorem dX5_behind_2 : decode cX5_behind 2 = .ok (.iload_n 1, 1) := by decide +kernel
theorem dX5_behind_3 : decode cX5_behind 3 = .ok (.invokevirtual 66, 3) := by decide +kernel
theorem dX5_behind_6 : decode cX5_behind 6 = .ok (.iadd, 1) := by decide +kernel
theorem dX5_behind_7 : decode cX5_behind 7 = .ok (.iconst 1, 1) := by decide +kernel
theorem dX5_behind_8 : decode cX5_behind 8 = .ok (.iadd, 1) := by decide +kernel
theorem dX5_behind_9 : decode cX5_behind 9 = .ok (.istore_n 2, 1) := by decide +kernel
theorem dX5_behind_10 : decode cX5_behind 10 = .ok (.iload_n 2, 1) := by decide +kernel
theorem dX5_behind_11 : decode cX5_behind 11 = .ok (.aload_n 0, 1) := by decide +kernel
theorem dX5_behind_12 : decode cX5_behind 12 = .ok (.getfield 32, 3) := by decide +kernel
theorem dX5_behind_15 : decode cX5_behind 15 = .ok (.if_icmp .le 7, 3) := by decide +kernel
theorem dX5_behind_18 : decode cX5_behind 18 = .ok (.iconst 0, 1) := by decide +kernel
theorem dX5_behind_19 : decode cX5_behind 19 = .ok (.goto 4, 3) := by decide +kernel
theorem dX5_behind_22 : decode cX5_behind 22 = .ok (.iload_n 2, 1) := by decide +kernel
theorem dX5_behind_23 : decode cX5_behind 23 = .ok (.ireturn, 1) := by decide +kernel
theorem dX5_tell_0 : decode cX5_tell 0 = .ok (.iload_n 1, 1) := by decide +kernel
theorem dX5_tell_1 : decode cX5_tell 1 = .ok (.ifCond .le 42, 3) := by decide +kernel
theorem dX5_tell_4 : decode cX5_tell 4 = .ok (.aload_n 0, 1) := by decide +kernel
theorem dX5_tell_5 : decode cX5_tell 5 = .ok (.getfield 7, 3) := by decide +kernel
theorem dX5_tell_8 : decode cX5_tell 8 = .ok (.iload_n 1, 1) := by decide +kernel
theorem dX5_tell_9 : decode cX5_tell 9 = .ok (.iconst 1, 1) := by decide +kernel
theorem dX5_tell_10 : decode cX5_tell 10 = .ok (.isub, 1) := by decide +kernel
theorem dX5_tell_11 : decode cX5_tell 11 = .ok (.iload_n 2, 1) := by decide +kernel
theorem dX5_tell_12 : decode cX5_tell 12 = .ok (.ifCond .eq 18, 3) := by decide +kernel
theorem dX5_tell_15 : decode cX5_tell 15 = .ok (.aload_n 0, 1) := by decide +kernel
theorem dX5_tell_16 : decode cX5_tell 16 = .ok (.getfield 7, 3) := by decide +kernel
theorem dX5_tell_19 : decode cX5_tell 19 = .ok (.iload_n 1, 1) := by decide +kernel
theorem dX5_tell_20 : decode cX5_tell 20 = .ok (.iconst 1, 1) := by decide +kernel
theorem dX5_tell_21 : decode cX5_tell 21 = .ok (.isub, 1) := by decide +kernel
theorem dX5_tell_22 : decode cX5_tell 22 = .ok (.laload, 1) := by decide +kernel
theorem dX5_tell_23 : decode cX5_tell 23 = .ok (.ldc2_w 69, 3) := by decide +kernel
theorem dX5_tell_26 : decode cX5_tell 26 = .ok (.lor, 1) := by decide +kernel
theorem dX5_tell_27 : decode cX5_tell 27 = .ok (.goto 15, 3) := by decide +kernel
theorem dX5_tell_30 : decode cX5_tell 30 = .ok (.aload_n 0, 1) := by decide +kernel
theorem dX5_tell_31 : decode cX5_tell 31 = .ok (.getfield 7, 3) := by decide +kernel
theorem dX5_tell_34 : decode cX5_tell 34 = .ok (.iload_n 1, 1) := by decide +kernel
theorem dX5_tell_35 : decode cX5_tell 35 = .ok (.iconst 1, 1) := by decide +kernel
theorem dX5_tell_36 : decode cX5_tell 36 = .ok (.isub, 1) := by decide +kernel
theorem dX5_tell_37 : decode cX5_tell 37 = .ok (.laload, 1) := by decide +kernel
theorem dX5_tell_38 : decode cX5_tell 38 = .ok (.ldc2_w 71, 3) := by decide +kernel
theorem dX5_tell_41 : decode cX5_tell 41 = .ok (.land, 1) := by decide +kernel
theorem dX5_tell_42 : decode cX5_tell 42 = .ok (.lastore, 1) := by decide +kernel
theorem dX5_tell_43 : decode cX5_tell 43 = .ok (.return_, 1) := by decide +kernel
theorem dX5_lend_0 : decode cX5_lend 0 = .ok (.iload_n 2, 1) := by decide +kernel
theorem dX5_lend_1 : decode cX5_lend 1 = .ok (.invokestatic 57, 3) := by decide +kernel
theorem dX5_lend_4 : decode cX5_lend 4 = .ok (.istore 5, 2) := by decide +kernel
theorem dX5_lend_6 : decode cX5_lend 6 = .ok (.aload_n 0, 1) := by decide +kernel
theorem dX5_lend_7 : decode cX5_lend 7 = .ok (.getfield 7, 3) := by decide +kernel
theorem dX5_lend_10 : decode cX5_lend 10 = .ok (.iload_n 1, 1) := by decide +kernel
theorem dX5_lend_11 : decode cX5_lend 11 = .ok (.iconst 1, 1) := by decide +kernel
theorem dX5_lend_12 : decode cX5_lend 12 = .ok (.isub, 1) := by decide +kernel
theorem dX5_lend_13 : decode cX5_lend 13 = .ok (.ldc2_w 73, 3) := by decide +kernel
theorem dX5_lend_16 : decode cX5_lend 16 = .ok (.iload_n 2, 1) := by decide +kernel
theorem dX5_lend_17 : decode cX5_lend 17 = .ok (.i2l, 1) := by decide +kernel
theorem dX5_lend_18 : decode cX5_lend 18 = .ok (.lmul, 1) := by decide +kernel
theorem dX5_lend_19 : decode cX5_lend 19 = .ok (.lload_n 3, 1) := by decide +kernel
theorem dX5_lend_20 : decode cX5_lend 20 = .ok (.ladd, 1) := by decide +kernel
theorem dX5_lend_21 : decode cX5_lend 21 = .ok (.lconst 1, 1) := by decide +kernel
theorem dX5_lend_22 : decode cX5_lend 22 = .ok (.ladd, 1) := by decide +kernel
theorem dX5_lend_23 : decode cX5_lend 23 = .ok (.lastore, 1) := by decide +kernel
theorem dX5_lend_24 : decode cX5_lend 24 = .ok (.aload_n 0, 1) := by decide +kernel
theorem dX5_lend_25 : decode cX5_lend 25 = .ok (.getfield 7, 3) := by decide +kernel
theorem dX5_lend_28 : decode cX5_lend 28 = .ok (.iload_n 1, 1) := by decide +kernel
theorem dX5_lend_29 : decode cX5_lend 29 = .ok (.aload_n 0, 1) := by decide +kernel
theorem dX5_lend_30 : decode cX5_lend 30 = .ok (.getfield 13, 3) := by decide +kernel
theorem dX5_lend_33 : decode cX5_lend 33 = .ok (.iload 5, 2) := by decide +kernel
theorem dX5_lend_35 : decode cX5_lend 35 = .ok (.iaload, 1) := by decide +kernel
theorem dX5_lend_36 : decode cX5_lend 36 = .ok (.i2l, 1) := by decide +kernel
theorem dX5_lend_37 : decode cX5_lend 37 = .ok (.lastore, 1) := by decide +kernel
theorem dX5_lend_38 : decode cX5_lend 38 = .ok (.aload_n 0, 1) := by decide +kernel
theorem dX5_lend_39 : decode cX5_lend 39 = .ok (.getfield 7, 3) := by decide +kernel
theorem dX5_lend_42 : decode cX5_lend 42 = .ok (.iload_n 1, 1) := by decide +kernel
theorem dX5_lend_43 : decode cX5_lend 43 = .ok (.iconst 1, 1) := by decide +kernel
theorem dX5_lend_44 : decode cX5_lend 44 = .ok (.iadd, 1) := by decide +kernel
theorem dX5_lend_45 : decode cX5_lend 45 = .ok (.lconst 0, 1) := by decide +kernel
theorem dX5_lend_46 : decode cX5_lend 46 = .ok (.lastore, 1) := by decide +kernel
theorem dX5_lend_47 : decode cX5_lend 47 = .ok (.aload_n 0, 1) := by decide +kernel
theorem dX5_lend_48 : decode cX5_lend 48 = .ok (.getfield 7, 3) := by decide +kernel
theorem dX5_lend_51 : decode cX5_lend 51 = .ok (.iload_n 1, 1) := by decide +kernel
theorem dX5_lend_52 : decode cX5_lend 52 = .ok (.iload_n 2, 1) := by decide +kernel
theorem dX5_lend_53 : decode cX5_lend 53 = .ok (.iadd, 1) := by decide +kernel
theorem dX5_lend_54 : decode cX5_lend 54 = .ok (.iconst 1, 1) := by decide +kernel
theorem dX5_lend_55 : decode cX5_lend 55 = .ok (.isub, 1) := by decide +kernel
theorem dX5_lend_56 : decode cX5_lend 56 = .ok (.iload_n 2, 1) := by decide +kernel
theorem dX5_lend_57 : decode cX5_lend 57 = .ok (.i2l, 1) := by decide +kernel
theorem dX5_lend_58 : decode cX5_lend 58 = .ok (.lastore, 1) := by decide +kernel
theorem dX5_lend_59 : decode cX5_lend 59 = .ok (.aload_n 0, 1) := by decide +kernel
theorem dX5_lend_60 : decode cX5_lend 60 = .ok (.getfield 13, 3) := by decide +kernel
theorem dX5_lend_63 : decode cX5_lend 63 = .ok (.iload 5, 2) := by decide +kernel
theorem dX5_lend_65 : decode cX5_lend 65 = .ok (.iaload, 1) := by decide +kernel
theorem dX5_lend_66 : decode cX5_lend 66 = .ok (.ifCond .eq 19, 3) := by decide +kernel
theorem dX5_lend_69 : decode cX5_lend 69 = .ok (.aload_n 0, 1) := by decide +kernel
theorem dX5_lend_70 : decode cX5_lend 70 = .ok (.getfield 7, 3) := by decide +kernel
theorem dX5_lend_73 : decode cX5_lend 73 = .ok (.aload_n 0, 1) := by decide +kernel
theorem dX5_lend_74 : decode cX5_lend 74 = .ok (.getfield 13, 3) := by decide +kernel
theorem dX5_lend_77 : decode cX5_lend 77 = .ok (.iload 5, 2) := by decide +kernel
theorem dX5_lend_79 : decode cX5_lend 79 = .ok (.iaload, 1) := by decide +kernel
theorem dX5_lend_80 : decode cX5_lend 80 = .ok (.iconst 1, 1) := by decide +kernel
theorem dX5_lend_81 : decode cX5_lend 81 = .ok (.iadd, 1) := by decide +kernel
theorem dX5_lend_82 : decode cX5_lend 82 = .ok (.iload_n 1, 1) := by decide +kernel
theorem dX5_lend_83 : decode cX5_lend 83 = .ok (.i2l, 1) := by decide +kernel
theorem dX5_lend_84 : decode cX5_lend 84 = .ok (.lastore, 1) := by decide +kernel
theorem dX5_lend_85 : decode cX5_lend 85 = .ok (.aload_n 0, 1) := by decide +kernel
theorem dX5_lend_86 : decode cX5_lend 86 = .ok (.getfield 13, 3) := by decide +kernel
theorem dX5_lend_89 : decode cX5_lend 89 = .ok (.iload 5, 2) := by decide +kernel
theorem dX5_lend_91 : decode cX5_lend 91 = .ok (.iload_n 1, 1) := by decide +kernel
theorem dX5_lend_92 : decode cX5_lend 92 = .ok (.iastore, 1) := by decide +kernel
theorem dX5_lend_93 : decode cX5_lend 93 = .ok (.aload_n 0, 1) := by decide +kernel
theorem dX5_lend_94 : decode cX5_lend 94 = .ok (.dup, 1) := by decide +kernel
theorem dX5_lend_95 : decode cX5_lend 95 = .ok (.getfield 46, 3) := by decide +kernel
theorem dX5_lend_98 : decode cX5_lend 98 = .ok (.iconst 1, 1) := by decide +kernel
theorem dX5_lend_99 : decode cX5_lend 99 = .ok (.iadd, 1) := by decide +kernel
theorem dX5_lend_100 : decode cX5_lend 100 = .ok (.putfield 46, 3) := by decide +kernel
theorem dX5_lend_103 : decode cX5_lend 103 = .ok (.aload_n 0, 1) := by decide +kernel
theorem dX5_lend_104 : decode cX5_lend 104 = .ok (.aload_n 0, 1) := by decide +kernel
theorem dX5_lend_105 : decode cX5_lend 105 = .ok (.iload_n 1, 1) := by decide +kernel
theorem dX5_lend_106 : decode cX5_lend 106 = .ok (.invokevirtual 75, 3) := by decide +kernel
theorem dX5_lend_109 : decode cX5_lend 109 = .ok (.iconst 1, 1) := by decide +kernel
theorem dX5_lend_110 : decode cX5_lend 110 = .ok (.invokevirtual 78, 3) := by decide +kernel
theorem dX5_lend_113 : decode cX5_lend 113 = .ok (.return_, 1) := by decide +kernel
theorem dX5_leave_0 : decode cX5_leave 0 = .ok (.aload_n 0, 1) := by decide +kernel
theorem dX5_leave_1 : decode cX5_leave 1 = .ok (.getfield 7, 3) := by decide +kernel
theorem dX5_leave_4 : decode cX5_leave 4 = .ok (.iload_n 1, 1) := by decide +kernel
theorem dX5_leave_5 : decode cX5_leave 5 = .ok (.laload, 1) := by decide +kernel
theorem dX5_leave_6 : decode cX5_leave 6 = .ok (.l2i, 1) := by decide +kernel
theorem dX5_leave_7 : decode cX5_leave 7 = .ok (.istore_n 2, 1) := by decide +kernel
theorem dX5_leave_8 : decode cX5_leave 8 = .ok (.aload_n 0, 1) := by decide +kernel
theorem dX5_leave_9 : decode cX5_leave 9 = .ok (.getfield 7, 3) := by decide +kernel
theorem dX5_leave_12 : decode cX5_leave 12 = .ok (.iload_n 1, 1) := by decide +kernel
theorem dX5_leave_13 : decode cX5_leave 13 = .ok (.iconst 1, 1) := by decide +kernel
theorem dX5_leave_14 : decode cX5_leave 14 = .ok (.iadd, 1) := by decide +kernel
theorem dX5_leave_15 : decode cX5_leave 15 = .ok (.laload, 1) := by decide +kernel
theorem dX5_leave_16 : decode cX5_leave 16 = .ok (.l2i, 1) := by decide +kernel
theorem dX5_leave_17 : decode cX5_leave 17 = .ok (.istore_n 3, 1) := by decide +kernel
theorem dX5_leave_18 : decode cX5_leave 18 = .ok (.iload_n 3, 1) := by decide +kernel
theorem dX5_leave_19 : decode cX5_leave 19 = .ok (.ifCond .ne 20, 3) := by decide +kernel
theorem dX5_leave_22 : decode cX5_leave 22 = .ok (.aload_n 0, 1) := by decide +kernel
theorem dX5_leave_23 : decode cX5_leave 23 = .ok (.getfield 13, 3) := by decide +kernel
theorem dX5_leave_26 : decode cX5_leave 26 = .ok (.aload_n 0, 1) := by decide +kernel
theorem dX5_leave_27 : decode cX5_leave 27 = .ok (.iload_n 1, 1) := by decide +kernel
theorem dX5_leave_28 : decode cX5_leave 28 = .ok (.invokevirtual 66, 3) := by decide +kernel
theorem dX5_leave_31 : decode cX5_leave 31 = .ok (.invokestatic 57, 3) := by decide +kernel
theorem dX5_leave_34 : decode cX5_leave 34 = .ok (.iload_n 2, 1) := by decide +kernel
theorem dX5_leave_35 : decode cX5_leave 35 = .ok (.iastore, 1) := by decide +kernel
theorem dX5_leave_36 : decode cX5_leave 36 = .ok (.goto 11, 3) := by decide +kernel
theorem dX5_leave_39 : decode cX5_leave 39 = .ok (.aload_n 0, 1) := by decide +kernel
theorem dX5_leave_40 : decode cX5_leave 40 = .ok (.getfield 7, 3) := by decide +kernel
theorem dX5_leave_43 : decode cX5_leave 43 = .ok (.iload_n 3, 1) := by decide +kernel
theorem dX5_leave_44 : decode cX5_leave 44 = .ok (.iload_n 2, 1) := by decide +kernel
theorem dX5_leave_45 : decode cX5_leave 45 = .ok (.i2l, 1) := by decide +kernel
theorem dX5_leave_46 : decode cX5_leave 46 = .ok (.lastore, 1) := by decide +kernel
theorem dX5_leave_47 : decode cX5_leave 47 = .ok (.iload_n 2, 1) := by decide +kernel
theorem dX5_leave_48 : decode cX5_leave 48 = .ok (.ifCond .eq 13, 3) := by decide +kernel
theorem dX5_leave_51 : decode cX5_leave 51 = .ok (.aload_n 0, 1) := by decide +kernel
theorem dX5_leave_52 : decode cX5_leave 52 = .ok (.getfield 7, 3) := by decide +kernel
theorem dX5_leave_55 : decode cX5_leave 55 = .ok (.iload_n 2, 1) := by decide +kernel
theorem dX5_leave_56 : decode cX5_leave 56 = .ok (.iconst 1, 1) := by decide +kernel
theorem dX5_leave_57 : decode cX5_leave 57 = .ok (.iadd, 1) := by decide +kernel
theorem dX5_leave_58 : decode cX5_leave 58 = .ok (.iload_n 3, 1) := by decide +kernel
theorem dX5_leave_59 : decode cX5_leave 59 = .ok (.i2l, 1) := by decide +kernel
theorem dX5_leave_60 : decode cX5_leave 60 = .ok (.lastore, 1) := by decide +kernel
theorem dX5_leave_61 : decode cX5_leave 61 = .ok (.aload_n 0, 1) := by decide +kernel
theorem dX5_leave_62 : decode cX5_leave 62 = .ok (.dup, 1) := by decide +kernel
theorem dX5_leave_63 : decode cX5_leave 63 = .ok (.getfield 46, 3) := by decide +kernel
theorem dX5_leave_66 : decode cX5_leave 66 = .ok (.iconst 1, 1) := by decide +kernel
theorem dX5_leave_67 : decode cX5_leave 67 = .ok (.iadd, 1) := by decide +kernel
theorem dX5_leave_68 : decode cX5_leave 68 = .ok (.putfield 46, 3) := by decide +kernel
theorem dX5_leave_71 : decode cX5_leave 71 = .ok (.return_, 1) := by decide +kernel
theorem dX5_take_0 : decode cX5_take 0 = .ok (.iload_n 2, 1) := by decide +kernel
theorem dX5_take_1 : decode cX5_take 1 = .ok (.iload_n 3, 1) := by decide +kernel
theorem dX5_take_2 : decode cX5_take 2 = .ok (.iconst 4, 1) := by decide +kernel
theorem dX5_take_3 : decode cX5_take 3 = .ok (.iadd, 1) := by decide +kernel
theorem dX5_take_4 : decode cX5_take 4 = .ok (.if_icmp .ge 31, 3) := by decide +kernel
theorem dX5_take_7 : decode cX5_take 7 = .ok (.aload_n 0, 1) := by decide +kernel
theorem dX5_take_8 : decode cX5_take 8 = .ok (.getfield 7, 3) := by decide +kernel
theorem dX5_take_11 : decode cX5_take 11 = .ok (.iload_n 1, 1) := by decide +kernel
theorem dX5_take_12 : decode cX5_take 12 = .ok (.iconst 1, 1) := by decide +kernel
theorem dX5_take_13 : decode cX5_take 13 = .ok (.isub, 1) := by decide +kernel
theorem dX5_take_14 : decode cX5_take 14 = .ok (.ldc2_w 73, 3) := by decide +kernel
theorem dX5_take_17 : decode cX5_take 17 = .ok (.iload_n 2, 1) := by decide +kernel
theorem dX5_take_18 : decode cX5_take 18 = .ok (.i2l, 1) := by decide +kernel
theorem dX5_take_19 : decode cX5_take 19 = .ok (.lmul, 1) := by decide +kernel
theorem dX5_take_20 : decode cX5_take 20 = .ok (.lload 4, 2) := by decide +kernel
theorem dX5_take_22 : decode cX5_take 22 = .ok (.ladd, 1) := by decide +kernel
theorem dX5_take_23 : decode cX5_take 23 = .ok (.lastore, 1) := by decide +kernel
theorem dX5_take_24 : decode cX5_take 24 = .ok (.aload_n 0, 1) := by decide +kernel
theorem dX5_take_25 : decode cX5_take 25 = .ok (.aload_n 0, 1) := by decide +kernel
theorem dX5_take_26 : decode cX5_take 26 = .ok (.iload_n 1, 1) := by decide +kernel
theorem dX5_take_27 : decode cX5_take 27 = .ok (.invokevirtual 75, 3) := by decide +kernel
theorem dX5_take_30 : decode cX5_take 30 = .ok (.iconst 0, 1) := by decide +kernel
theorem dX5_take_31 : decode cX5_take 31 = .ok (.invokevirtual 78, 3) := by decide +kernel
theorem dX5_take_34 : decode cX5_take 34 = .ok (.return_, 1) := by decide +kernel
theorem dX5_take_35 : decode cX5_take 35 = .ok (.aload_n 0, 1) := by decide +kernel
theorem dX5_take_36 : decode cX5_take 36 = .ok (.getfield 7, 3) := by decide +kernel
theorem dX5_take_39 : decode cX5_take 39 = .ok (.iload_n 1, 1) := by decide +kernel
theorem dX5_take_40 : decode cX5_take 40 = .ok (.iconst 1, 1) := by decide +kernel
theorem dX5_take_41 : decode cX5_take 41 = .ok (.isub, 1) := by decide +kernel
theorem dX5_take_42 : decode cX5_take 42 = .ok (.ldc2_w 73, 3) := by decide +kernel
theorem dX5_take_45 : decode cX5_take 45 = .ok (.iload_n 3, 1) := by decide +kernel
theorem dX5_take_46 : decode cX5_take 46 = .ok (.i2l, 1) := by decide +kernel
theorem dX5_take_47 : decode cX5_take 47 = .ok (.lmul, 1) := by decide +kernel
theorem dX5_take_48 : decode cX5_take 48 = .ok (.lload 4, 2) := by decide +kernel
theorem dX5_take_50 : decode cX5_take 50 = .ok (.ladd, 1) := by decide +kernel
theorem dX5_take_51 : decode cX5_take 51 = .ok (.lastore, 1) := by decide +kernel
theorem dX5_take_52 : decode cX5_take 52 = .ok (.aload_n 0, 1) := by decide +kernel
theorem dX5_take_53 : decode cX5_take 53 = .ok (.iload_n 1, 1) := by decide +kernel
theorem dX5_take_54 : decode cX5_take 54 = .ok (.iload_n 3, 1) := by decide +kernel
theorem dX5_take_55 : decode cX5_take 55 = .ok (.iadd, 1) := by decide +kernel
theorem dX5_take_56 : decode cX5_take 56 = .ok (.iconst 1, 1) := by decide +kernel
theorem dX5_take_57 : decode cX5_take 57 = .ok (.iadd, 1) := by decide +kernel
theorem dX5_take_58 : decode cX5_take 58 = .ok (.iload_n 2, 1) := by decide +kernel
theorem dX5_take_59 : decode cX5_take 59 = .ok (.iload_n 3, 1) := by decide +kernel
theorem dX5_take_60 : decode cX5_take 60 = .ok (.isub, 1) := by decide +kernel
theorem dX5_take_61 : decode cX5_take 61 = .ok (.iconst 1, 1) := by decide +kernel
theorem dX5_take_62 : decode cX5_take 62 = .ok (.isub, 1) := by decide +kernel
theorem dX5_take_63 : decode cX5_take 63 = .ok (.lconst 0, 1) := by decide +kernel
theorem dX5_take_64 : decode cX5_take 64 = .ok (.invokevirtual 42, 3) := by decide +kernel
theorem dX5_take_67 : decode cX5_take 67 = .ok (.return_, 1) := by decide +kernel
theorem dX5_least_0 : decode cX5_least 0 = .ok (.iload_n 0, 1) := by decide +kernel
theorem dX5_least_1 : decode cX5_least 1 = .ok (.iconst 3, 1) := by decide +kernel
theorem dX5_least_2 : decode cX5_least 2 = .ok (.if_icmp .ge 7, 3) := by decide +kernel
theorem dX5_least_5 : decode cX5_least 5 = .ok (.iconst 3, 1) := by decide +kernel
theorem dX5_least_6 : decode cX5_least 6 = .ok (.goto 4, 3) := by decide +kernel
theorem dX5_least_9 : decode cX5_least 9 = .ok (.iload_n 0, 1) := by decide +kernel
theorem dX5_least_10 : decode cX5_least 10 = .ok (.ireturn, 1) := by decide +kernel
theorem dX5_isBad_0 : decode cX5_isBad 0 = .ok (.aload_n 0, 1) := by decide +kernel
theorem dX5_isBad_1 : decode cX5_isBad 1 = .ok (.getfield 35, 3) := by decide +kernel
theorem dX5_isBad_4 : decode cX5_isBad 4 = .ok (.ifCond .eq 25, 3) := by decide +kernel
theorem dX5_isBad_7 : decode cX5_isBad 7 = .ok (.iload_n 1, 1) := by decide +kernel
theorem dX5_isBad_8 : decode cX5_isBad 8 = .ok (.i2l, 1) := by decide +kernel
theorem dX5_isBad_9 : decode cX5_isBad 9 = .ok (.lconst 1, 1) := by decide +kernel
theorem dX5_isBad_10 : decode cX5_isBad 10 = .ok (.aload_n 0, 1) := by decide +kernel
theorem dX5_isBad_11 : decode cX5_isBad 11 = .ok (.getfield 32, 3) := by decide +kernel
theorem dX5_isBad_14 : decode cX5_isBad 14 = .ok (.iconst 1, 1) := by decide +kernel
theorem dX5_isBad_15 : decode cX5_isBad 15 = .ok (.isub, 1) := by decide +kernel
theorem dX5_isBad_16 : decode cX5_isBad 16 = .ok (.i2l, 1) := by decide +kernel
theorem dX5_isBad_17 : decode cX5_isBad 17 = .ok (.invokestatic 53, 3) := by decide +kernel
theorem dX5_isBad_20 : decode cX5_isBad 20 = .ok (.ifCond .ne 7, 3) := by decide +kernel
theorem dX5_isBad_23 : decode cX5_isBad 23 = .ok (.iconst 1, 1) := by decide +kernel
theorem dX5_isBad_24 : decode cX5_isBad 24 = .ok (.goto 4, 3) := by decide +kernel
theorem dX5_isBad_27 : decode cX5_isBad 27 = .ok (.iconst 0, 1) := by decide +kernel
theorem dX5_isBad_28 : decode cX5_isBad 28 = .ok (.ireturn, 1) := by decide +kernel
theorem dX5_isBad_29 : decode cX5_isBad 29 = .ok (.iconst 1, 1) := by decide +kernel
theorem dX5_isBad_30 : decode cX5_isBad 30 = .ok (.istore_n 2, 1) := by decide +kernel
theorem dX5_isBad_31 : decode cX5_isBad 31 = .ok (.iload_n 2, 1) := by decide +kernel
theorem dX5_isBad_32 : decode cX5_isBad 32 = .ok (.ifCond .le 17, 3) := by decide +kernel
theorem dX5_isBad_35 : decode cX5_isBad 35 = .ok (.iload_n 2, 1) := by decide +kernel
theorem dX5_isBad_36 : decode cX5_isBad 36 = .ok (.iload_n 1, 1) := by decide +kernel
theorem dX5_isBad_37 : decode cX5_isBad 37 = .ok (.if_icmp .ge 12, 3) := by decide +kernel
theorem dX5_isBad_40 : decode cX5_isBad 40 = .ok (.aload_n 0, 1) := by decide +kernel
theorem dX5_isBad_41 : decode cX5_isBad 41 = .ok (.iload_n 2, 1) := by decide +kernel
theorem dX5_isBad_42 : decode cX5_isBad 42 = .ok (.invokevirtual 75, 3) := by decide +kernel
theorem dX5_isBad_45 : decode cX5_isBad 45 = .ok (.istore_n 2, 1) := by decide +kernel
theorem dX5_isBad_46 : decode cX5_isBad 46 = .ok (.goto (-15), 3) := by decide +kernel
theorem dX5_isBad_49 : decode cX5_isBad 49 = .ok (.iload_n 1, 1) := by decide +kernel
theorem dX5_isBad_50 : decode cX5_isBad 50 = .ok (.iconst 1, 1) := by decide +kernel
theorem dX5_isBad_51 : decode cX5_isBad 51 = .ok (.if_icmp .lt 16, 3) := by decide +kernel
theorem dX5_isBad_54 : decode cX5_isBad 54 = .ok (.iload_n 2, 1) := by decide +kernel
theorem dX5_isBad_55 : decode cX5_isBad 55 = .ok (.iload_n 1, 1) := by decide +kernel
theorem dX5_isBad_56 : decode cX5_isBad 56 = .ok (.if_icmp .ne 11, 3) := by decide +kernel
theorem dX5_isBad_59 : decode cX5_isBad 59 = .ok (.aload_n 0, 1) := by decide +kernel
theorem dX5_isBad_60 : decode cX5_isBad 60 = .ok (.iload_n 2, 1) := by decide +kernel
theorem dX5_isBad_61 : decode cX5_isBad 61 = .ok (.invokevirtual 82, 3) := by decide +kernel
theorem dX5_isBad_64 : decode cX5_isBad 64 = .ok (.ifCond .eq 7, 3) := by decide +kernel
theorem dX5_isBad_67 : decode cX5_isBad 67 = .ok (.iconst 1, 1) := by decide +kernel
theorem dX5_isBad_68 : decode cX5_isBad 68 = .ok (.goto 4, 3) := by decide +kernel
theorem dX5_isBad_71 : decode cX5_isBad 71 = .ok (.iconst 0, 1) := by decide +kernel
theorem dX5_isBad_72 : decode cX5_isBad 72 = .ok (.ireturn, 1) := by decide +kernel
theorem dX5_alloc_0 : decode cX5_alloc 0 = .ok (.iload_n 1, 1) := by decide +kernel
theorem dX5_alloc_1 : decode cX5_alloc 1 = .ok (.i2l, 1) := by decide +kernel
theorem dX5_alloc_2 : decode cX5_alloc 2 = .ok (.lconst 1, 1) := by decide +kernel
theorem dX5_alloc_3 : decode cX5_alloc 3 = .ok (.ldc2_w 51, 3) := by decide +kernel
theorem dX5_alloc_6 : decode cX5_alloc 6 = .ok (.invokestatic 53, 3) := by decide +kernel
theorem dX5_alloc_9 : decode cX5_alloc 9 = .ok (.ifCond .ne 6, 3) := by decide +kernel
theorem dX5_alloc_12 : decode cX5_alloc 12 = .ok (.bipush (-2), 2) := by decide +kernel
theorem dX5_alloc_14 : decode cX5_alloc 14 = .ok (.ireturn, 1) := by decide +kernel
theorem dX5_alloc_15 : decode cX5_alloc 15 = .ok (.aload_n 0, 1) := by decide +kernel
theorem dX5_alloc_16 : decode cX5_alloc 16 = .ok (.getfield 35, 3) := by decide +kernel
theorem dX5_alloc_19 : decode cX5_alloc 19 = .ok (.ifCond .eq 6, 3) := by decide +kernel
theorem dX5_alloc_22 : decode cX5_alloc 22 = .ok (.bipush (-3), 2) := by decide +kernel
theorem dX5_alloc_24 : decode cX5_alloc 24 = .ok (.ireturn, 1) := by decide +kernel
theorem dX5_alloc_25 : decode cX5_alloc 25 = .ok (.aload_n 0, 1) := by decide +kernel
theorem dX5_alloc_26 : decode cX5_alloc 26 = .ok (.iload_n 1, 1) := by decide +kernel
theorem dX5_alloc_27 : decode cX5_alloc 27 = .ok (.invokevirtual 86, 3) := by decide +kernel
theorem dX5_alloc_30 : decode cX5_alloc 30 = .ok (.istore_n 2, 1) := by decide +kernel
theorem dX5_alloc_31 : decode cX5_alloc 31 = .ok (.iload_n 2, 1) := by decide +kernel
theorem dX5_alloc_32 : decode cX5_alloc 32 = .ok (.ifCond .ne 15, 3) := by decide +kernel
theorem dX5_alloc_35 : decode cX5_alloc 35 = .ok (.aload_n 0, 1) := by decide +kernel
theorem dX5_alloc_36 : decode cX5_alloc 36 = .ok (.dup, 1) := by decide +kernel
theorem dX5_alloc_37 : decode cX5_alloc 37 = .ok (.getfield 39, 3) := by decide +kernel
theorem dX5_alloc_40 : decode cX5_alloc 40 = .ok (.iconst 1, 1) := by decide +kernel
theorem dX5_alloc_41 : decode cX5_alloc 41 = .ok (.iadd, 1) := by decide +kernel
theorem dX5_alloc_42 : decode cX5_alloc 42 = .ok (.putfield 39, 3) := by decide +kernel
theorem dX5_alloc_45 : decode cX5_alloc 45 = .ok (.iconst (-1), 1) := by decide +kernel
theorem dX5_alloc_46 : decode cX5_alloc 46 = .ok (.ireturn, 1) := by decide +kernel
theorem dX5_alloc_47 : decode cX5_alloc 47 = .ok (.aload_n 0, 1) := by decide +kernel
theorem dX5_alloc_48 : decode cX5_alloc 48 = .ok (.iconst 0, 1) := by decide +kernel
theorem dX5_alloc_49 : decode cX5_alloc 49 = .ok (.putfield 46, 3) := by decide +kernel
theorem dX5_alloc_52 : decode cX5_alloc 52 = .ok (.aload_n 0, 1) := by decide +kernel
theorem dX5_alloc_53 : decode cX5_alloc 53 = .ok (.iload_n 2, 1) := by decide +kernel
theorem dX5_alloc_54 : decode cX5_alloc 54 = .ok (.invokevirtual 89, 3) := by decide +kernel
theorem dX5_alloc_57 : decode cX5_alloc 57 = .ok (.aload_n 0, 1) := by decide +kernel
theorem dX5_alloc_58 : decode cX5_alloc 58 = .ok (.iload_n 2, 1) := by decide +kernel
theorem dX5_alloc_59 : decode cX5_alloc 59 = .ok (.aload_n 0, 1) := by decide +kernel
theorem dX5_alloc_60 : decode cX5_alloc 60 = .ok (.iload_n 2, 1) := by decide +kernel
theorem dX5_alloc_61 : decode cX5_alloc 61 = .ok (.invokevirtual 66, 3) := by decide +kernel
theorem dX5_alloc_64 : decode cX5_alloc 64 = .ok (.iload_n 1, 1) := by decide +kernel
theorem dX5_alloc_65 : decode cX5_alloc 65 = .ok (.invokestatic 92, 3) := by decide +kernel
theorem dX5_alloc_68 : decode cX5_alloc 68 = .ok (.lconst 0, 1) := by decide +kernel
theorem dX5_alloc_69 : decode cX5_alloc 69 = .ok (.invokevirtual 95, 3) := by decide +kernel
theorem dX5_alloc_72 : decode cX5_alloc 72 = .ok (.iload_n 2, 1) := by decide +kernel
theorem dX5_alloc_73 : decode cX5_alloc 73 = .ok (.ireturn, 1) := by decide +kernel
theorem dX5_aligned_0 : decode cX5_aligned 0 = .ok (.iload_n 2, 1) := by decide +kernel
theorem dX5_aligned_1 : decode cX5_aligned 1 = .ok (.iconst 2, 1) := by decide +kernel
theorem dX5_aligned_2 : decode cX5_aligned 2 = .ok (.if_icmp .eq 32, 3) := by decide +kernel
theorem dX5_aligned_5 : decode cX5_aligned 5 = .ok (.iload_n 2, 1) := by decide +kernel
theorem dX5_aligned_6 : decode cX5_aligned 6 = .ok (.iconst 4, 1) := by decide +kernel
theorem dX5_aligned_7 : decode cX5_aligned 7 = .ok (.if_icmp .eq 27, 3) := by decide +kernel
theorem dX5_aligned_10 : decode cX5_aligned 10 = .ok (.iload_n 2, 1) := by decide +kernel
theorem dX5_aligned_11 : decode cX5_aligned 11 = .ok (.bipush 8, 2) := by decide +kernel
theorem dX5_aligned_13 : decode cX5_aligned 13 = .ok (.if_icmp .eq 21, 3) := by decide +kernel
theorem dX5_aligned_16 : decode cX5_aligned 16 = .ok (.iload_n 2, 1) := by decide +kernel
theorem dX5_aligned_17 : decode cX5_aligned 17 = .ok (.bipush 16, 2) := by decide +kernel
theorem dX5_aligned_19 : decode cX5_aligned 19 = .ok (.if_icmp .eq 15, 3) := by decide +kernel
theorem dX5_aligned_22 : decode cX5_aligned 22 = .ok (.iload_n 2, 1) := by decide +kernel
theorem dX5_aligned_23 : decode cX5_aligned 23 = .ok (.bipush 32, 2) := by decide +kernel
theorem dX5_aligned_25 : decode cX5_aligned 25 = .ok (.if_icmp .eq 9, 3) := by decide +kernel
theorem dX5_aligned_28 : decode cX5_aligned 28 = .ok (.iload_n 2, 1) := by decide +kernel
theorem dX5_aligned_29 : decode cX5_aligned 29 = .ok (.bipush 64, 2) := by decide +kernel
theorem dX5_aligned_31 : decode cX5_aligned 31 = .ok (.if_icmp .ne 7, 3) := by decide +kernel
theorem dX5_aligned_34 : decode cX5_aligned 34 = .ok (.iconst 1, 1) := by decide +kernel
theorem dX5_aligned_35 : decode cX5_aligned 35 = .ok (.goto 4, 3) := by decide +kernel
theorem dX5_aligned_38 : decode cX5_aligned 38 = .ok (.iconst 0, 1) := by decide +kernel
theorem dX5_aligned_39 : decode cX5_aligned 39 = .ok (.istore_n 3, 1) := by decide +kernel
theorem dX5_aligned_40 : decode cX5_aligned 40 = .ok (.iload_n 1, 1) := by decide +kernel
theorem dX5_aligned_41 : decode cX5_aligned 41 = .ok (.i2l, 1) := by decide +kernel
theorem dX5_aligned_42 : decode cX5_aligned 42 = .ok (.lconst 1, 1) := by decide +kernel
theorem dX5_aligned_43 : decode cX5_aligned 43 = .ok (.ldc2_w 51, 3) := by decide +kernel
theorem dX5_aligned_46 : decode cX5_aligned 46 = .ok (.invokestatic 53, 3) := by decide +kernel
theorem dX5_aligned_49 : decode cX5_aligned 49 = .ok (.ifCond .eq 7, 3) := by decide +kernel
theorem dX5_aligned_52 : decode cX5_aligned 52 = .ok (.iload_n 3, 1) := by decide +kernel
theorem dX5_aligned_53 : decode cX5_aligned 53 = .ok (.ifCond .ne 6, 3) := by decide +kernel
theorem dX5_aligned_56 : decode cX5_aligned 56 = .ok (.bipush (-2), 2) := by decide +kernel
theorem dX5_aligned_58 : decode cX5_aligned 58 = .ok (.ireturn, 1) := by decide +kernel
theorem dX5_aligned_59 : decode cX5_aligned 59 = .ok (.aload_n 0, 1) := by decide +kernel
theorem dX5_aligned_60 : decode cX5_aligned 60 = .ok (.getfield 35, 3) := by decide +kernel
theorem dX5_aligned_63 : decode cX5_aligned 63 = .ok (.ifCond .eq 6, 3) := by decide +kernel
theorem dX5_aligned_66 : decode cX5_aligned 66 = .ok (.bipush (-3), 2) := by decide +kernel
theorem dX5_aligned_68 : decode cX5_aligned 68 = .ok (.ireturn, 1) := by decide +kernel
theorem dX5_aligned_69 : decode cX5_aligned 69 = .ok (.aload_n 0, 1) := by decide +kernel
theorem dX5_aligned_70 : decode cX5_aligned 70 = .ok (.iload_n 1, 1) := by decide +kernel
theorem dX5_aligned_71 : decode cX5_aligned 71 = .ok (.invokestatic 92, 3) := by decide +kernel
theorem dX5_aligned_74 : decode cX5_aligned 74 = .ok (.iload_n 2, 1) := by decide +kernel
theorem dX5_aligned_75 : decode cX5_aligned 75 = .ok (.iadd, 1) := by decide +kernel
theorem dX5_aligned_76 : decode cX5_aligned 76 = .ok (.iconst 3, 1) := by decide +kernel
theorem dX5_aligned_77 : decode cX5_aligned 77 = .ok (.iadd, 1) := by decide +kernel
theorem dX5_aligned_78 : decode cX5_aligned 78 = .ok (.invokevirtual 86, 3) := by decide +kernel
theorem dX5_aligned_81 : decode cX5_aligned 81 = .ok (.istore 4, 2) := by decide +kernel
theorem dX5_aligned_83 : decode cX5_aligned 83 = .ok (.iload 4, 2) := by decide +kernel
theorem dX5_aligned_85 : decode cX5_aligned 85 = .ok (.ifCond .ne 15, 3) := by decide +kernel
theorem dX5_aligned_88 : decode cX5_aligned 88 = .ok (.aload_n 0, 1) := by decide +kernel
theorem dX5_aligned_89 : decode cX5_aligned 89 = .ok (.dup, 1) := by decide +kernel
theorem dX5_aligned_90 : decode cX5_aligned 90 = .ok (.getfield 39, 3) := by decide +kernel
theorem dX5_aligned_93 : decode cX5_aligned 93 = .ok (.iconst 1, 1) := by decide +kernel
theorem dX5_aligned_94 : decode cX5_aligned 94 = .ok (.iadd, 1) := by decide +kernel
theorem dX5_aligned_95 : decode cX5_aligned 95 = .ok (.putfield 39, 3) := by decide +kernel
theorem dX5_aligned_98 : decode cX5_aligned 98 = .ok (.iconst (-1), 1) := by decide +kernel
theorem dX5_aligned_99 : decode cX5_aligned 99 = .ok (.ireturn, 1) := by decide +kernel
theorem dX5_aligned_100 : decode cX5_aligned 100 = .ok (.aload_n 0, 1) := by decide +kernel
theorem dX5_aligned_101 : decode cX5_aligned 101 = .ok (.iconst 0, 1) := by decide +kernel
theorem dX5_aligned_102 : decode cX5_aligned 102 = .ok (.putfield 46, 3) := by decide +kernel
theorem dX5_aligned_105 : decode cX5_aligned 105 = .ok (.aload_n 0, 1) := by decide +kernel
theorem dX5_aligned_106 : decode cX5_aligned 106 = .ok (.iload 4, 2) := by decide +kernel
theorem dX5_aligned_108 : decode cX5_aligned 108 = .ok (.invokevirtual 89, 3) := by decide +kernel
theorem dX5_aligned_111 : decode cX5_aligned 111 = .ok (.aload_n 0, 1) := by decide +kernel
theorem dX5_aligned_112 : decode cX5_aligned 112 = .ok (.iload 4, 2) := by decide +kernel
theorem dX5_aligned_114 : decode cX5_aligned 114 = .ok (.invokevirtual 66, 3) := by decide +kernel
theorem dX5_aligned_117 : decode cX5_aligned 117 = .ok (.istore 5, 2) := by decide +kernel
theorem dX5_aligned_119 : decode cX5_aligned 119 = .ok (.iload 4, 2) := by decide +kernel
theorem dX5_aligned_121 : decode cX5_aligned 121 = .ok (.istore 6, 2) := by decide +kernel
theorem dX5_aligned_123 : decode cX5_aligned 123 = .ok (.iload 4, 2) := by decide +kernel
theorem dX5_aligned_125 : decode cX5_aligned 125 = .ok (.iload_n 2, 1) := by decide +kernel
theorem dX5_aligned_126 : decode cX5_aligned 126 = .ok (.irem, 1) := by decide +kernel
theorem dX5_aligned_127 : decode cX5_aligned 127 = .ok (.ifCond .eq 17, 3) := by decide +kernel
theorem dX5_aligned_130 : decode cX5_aligned 130 = .ok (.iload 4, 2) := by decide +kernel
theorem dX5_aligned_132 : decode cX5_aligned 132 = .ok (.iconst 4, 1) := by decide +kernel
theorem dX5_aligned_133 : decode cX5_aligned 133 = .ok (.iadd, 1) := by decide +kernel
theorem dX5_aligned_134 : decode cX5_aligned 134 = .ok (.iload_n 2, 1) := by decide +kernel
theorem dX5_aligned_135 : decode cX5_aligned 135 = .ok (.iadd, 1) := by decide +kernel
theorem dX5_aligned_136 : decode cX5_aligned 136 = .ok (.iconst 1, 1) := by decide +kernel
theorem dX5_aligned_137 : decode cX5_aligned 137 = .ok (.isub, 1) := by decide +kernel
theorem dX5_aligned_138 : decode cX5_aligned 138 = .ok (.iload_n 2, 1) := by decide +kernel
theorem dX5_aligned_139 : decode cX5_aligned 139 = .ok (.idiv, 1) := by decide +kernel
theorem dX5_aligned_140 : decode cX5_aligned 140 = .ok (.iload_n 2, 1) := by decide +kernel
theorem dX5_aligned_141 : decode cX5_aligned 141 = .ok (.imul, 1) := by decide +kernel
theorem dX5_aligned_142 : decode cX5_aligned 142 = .ok (.istore 6, 2) := by decide +kernel
theorem dX5_aligned_144 : decode cX5_aligned 144 = .ok (.iload 6, 2) := by decide +kernel
theorem dX5_aligned_146 : decode cX5_aligned 146 = .ok (.iload 4, 2) := by decide +kernel
theorem dX5_aligned_148 : decode cX5_aligned 148 = .ok (.if_icmp .eq 39, 3) := by decide +kernel
theorem dX5_aligned_151 : decode cX5_aligned 151 = .ok (.aload_n 0, 1) := by decide +kernel
theorem dX5_aligned_152 : decode cX5_aligned 152 = .ok (.getfield 7, 3) := by decide +kernel
theorem dX5_aligned_155 : decode cX5_aligned 155 = .ok (.iload 6, 2) := by decide +kernel
theorem dX5_aligned_157 : decode cX5_aligned 157 = .ok (.iconst 1, 1) := by decide +kernel
theorem dX5_aligned_158 : decode cX5_aligned 158 = .ok (.isub, 1) := by decide +kernel
theorem dX5_aligned_159 : decode cX5_aligned 159 = .ok (.ldc2_w 73, 3) := by decide +kernel
theorem dX5_aligned_162 : decode cX5_aligned 162 = .ok (.iload 5, 2) := by decide +kernel
theorem dX5_aligned_164 : decode cX5_aligned 164 = .ok (.iload 6, 2) := by decide +kernel
theorem dX5_aligned_166 : decode cX5_aligned 166 = .ok (.iload 4, 2) := by decide +kernel
theorem dX5_aligned_168 : decode cX5_aligned 168 = .ok (.isub, 1) := by decide +kernel
theorem dX5_aligned_169 : decode cX5_aligned 169 = .ok (.isub, 1) := by decide +kernel
theorem dX5_aligned_170 : decode cX5_aligned 170 = .ok (.i2l, 1) := by decide +kernel
theorem dX5_aligned_171 : decode cX5_aligned 171 = .ok (.lmul, 1) := by decide +kernel
theorem dX5_aligned_172 : decode cX5_aligned 172 = .ok (.lastore, 1) := by decide +kernel
theorem dX5_aligned_173 : decode cX5_aligned 173 = .ok (.aload_n 0, 1) := by decide +kernel
theorem dX5_aligned_174 : decode cX5_aligned 174 = .ok (.iload 4, 2) := by decide +kernel
theorem dX5_aligned_176 : decode cX5_aligned 176 = .ok (.iload 6, 2) := by decide +kernel
theorem dX5_aligned_178 : decode cX5_aligned 178 = .ok (.iload 4, 2) := by decide +kernel
theorem dX5_aligned_180 : decode cX5_aligned 180 = .ok (.isub, 1) := by decide +kernel
theorem dX5_aligned_181 : decode cX5_aligned 181 = .ok (.iconst 1, 1) := by decide +kernel
theorem dX5_aligned_182 : decode cX5_aligned 182 = .ok (.isub, 1) := by decide +kernel
theorem dX5_aligned_183 : decode cX5_aligned 183 = .ok (.lconst 0, 1) := by decide +kernel
theorem dX5_aligned_184 : decode cX5_aligned 184 = .ok (.invokevirtual 42, 3) := by decide +kernel
theorem dX5_aligned_187 : decode cX5_aligned 187 = .ok (.aload_n 0, 1) := by decide +kernel
theorem dX5_aligned_188 : decode cX5_aligned 188 = .ok (.iload 6, 2) := by decide +kernel
theorem dX5_aligned_190 : decode cX5_aligned 190 = .ok (.iload 5, 2) := by decide +kernel
theorem dX5_aligned_192 : decode cX5_aligned 192 = .ok (.iload 6, 2) := by decide +kernel
theorem dX5_aligned_194 : decode cX5_aligned 194 = .ok (.iload 4, 2) := by decide +kernel
theorem dX5_aligned_196 : decode cX5_aligned 196 = .ok (.isub, 1) := by decide +kernel
theorem dX5_aligned_197 : decode cX5_aligned 197 = .ok (.isub, 1) := by decide +kernel
theorem dX5_aligned_198 : decode cX5_aligned 198 = .ok (.iload_n 1, 1) := by decide +kernel
theorem dX5_aligned_199 : decode cX5_aligned 199 = .ok (.invokestatic 92, 3) := by decide +kernel
theorem dX5_aligned_202 : decode cX5_aligned 202 = .ok (.iload 6, 2) := by decide +kernel
theorem dX5_aligned_204 : decode cX5_aligned 204 = .ok (.iload 4, 2) := by decide +kernel
theorem dX5_aligned_206 : decode cX5_aligned 206 = .ok (.if_icmp .ne 7, 3) := by decide +kernel
theorem dX5_aligned_209 : decode cX5_aligned 209 = .ok (.lconst 0, 1) := by decide +kernel
theorem dX5_aligned_210 : decode cX5_aligned 210 = .ok (.goto 6, 3) := by decide +kernel
theorem dX5_aligned_213 : decode cX5_aligned 213 = .ok (.ldc2_w 69, 3) := by decide +kernel
theorem dX5_aligned_216 : decode cX5_aligned 216 = .ok (.invokevirtual 95, 3) := by decide +kernel
theorem dX5_aligned_219 : decode cX5_aligned 219 = .ok (.iload 6, 2) := by decide +kernel
theorem dX5_aligned_221 : decode cX5_aligned 221 = .ok (.ireturn, 1) := by decide +kernel
theorem dX5_release_0 : decode cX5_release 0 = .ok (.iload_n 1, 1) := by decide +kernel
theorem dX5_release_1 : decode cX5_release 1 = .ok (.istore_n 2, 1) := by decide +kernel
theorem dX5_release_2 : decode cX5_release 2 = .ok (.aload_n 0, 1) := by decide +kernel
theorem dX5_release_3 : decode cX5_release 3 = .ok (.iload_n 1, 1) := by decide +kernel
theorem dX5_release_4 : decode cX5_release 4 = .ok (.invokevirtual 66, 3) := by decide +kernel
theorem dX5_release_7 : decode cX5_release 7 = .ok (.istore_n 3, 1) := by decide +kernel
theorem dX5_release_8 : decode cX5_release 8 = .ok (.aload_n 0, 1) := by decide +kernel
theorem dX5_release_9 : decode cX5_release 9 = .ok (.iload_n 1, 1) := by decide +kernel
theorem dX5_release_10 : decode cX5_release 10 = .ok (.invokevirtual 75, 3) := by decide +kernel
theorem dX5_release_13 : decode cX5_release 13 = .ok (.istore 4, 2) := by decide +kernel
theorem dX5_release_15 : decode cX5_release 15 = .ok (.iload 4, 2) := by decide +kernel
theorem dX5_release_17 : decode cX5_release 17 = .ok (.ifCond .le 29, 3) := by decide +kernel
theorem dX5_release_20 : decode cX5_release 20 = .ok (.aload_n 0, 1) := by decide +kernel
theorem dX5_release_21 : decode cX5_release 21 = .ok (.iload 4, 2) := by decide +kernel
theorem dX5_release_23 : decode cX5_release 23 = .ok (.invokevirtual 82, 3) := by decide +kernel
theorem dX5_release_26 : decode cX5_release 26 = .ok (.ifCond .eq 20, 3) := by decide +kernel
theorem dX5_release_29 : decode cX5_release 29 = .ok (.aload_n 0, 1) := by decide +kernel
theorem dX5_release_30 : decode cX5_release 30 = .ok (.iload 4, 2) := by decide +kernel
theorem dX5_release_32 : decode cX5_release 32 = .ok (.invokevirtual 89, 3) := by decide +kernel
theorem dX5_release_35 : decode cX5_release 35 = .ok (.iload_n 3, 1) := by decide +kernel
theorem dX5_release_36 : decode cX5_release 36 = .ok (.iconst 1, 1) := by decide +kernel
theorem dX5_release_37 : decode cX5_release 37 = .ok (.aload_n 0, 1) := by decide +kernel
theorem dX5_release_38 : decode cX5_release 38 = .ok (.iload 4, 2) := by decide +kernel
theorem dX5_release_40 : decode cX5_release 40 = .ok (.invokevirtual 66, 3) := by decide +kernel
theorem dX5_release_43 : decode cX5_release 43 = .ok (.iadd, 1) := by decide +kernel
theorem dX5_release_44 : decode cX5_release 44 = .ok (.iadd, 1) := by decide +kernel
theorem dX5_release_45 : decode cX5_release 45 = .ok (.istore_n 3, 1) := by decide +kernel
theorem dX5_release_46 : decode cX5_release 46 = .ok (.aload_n 0, 1) := by decide +kernel
theorem dX5_release_47 : decode cX5_release 47 = .ok (.getfield 7, 3) := by decide +kernel
theorem dX5_release_50 : decode cX5_release 50 = .ok (.iload_n 1, 1) := by decide +kernel
theorem dX5_release_51 : decode cX5_release 51 = .ok (.iconst 1, 1) := by decide +kernel
theorem dX5_release_52 : decode cX5_release 52 = .ok (.isub, 1) := by decide +kernel
theorem dX5_release_53 : decode cX5_release 53 = .ok (.laload, 1) := by decide +kernel
theorem dX5_release_54 : decode cX5_release 54 = .ok (.ldc2_w 69, 3) := by decide +kernel
theorem dX5_release_57 : decode cX5_release 57 = .ok (.land, 1) := by decide +kernel
theorem dX5_release_58 : decode cX5_release 58 = .ok (.ldc2_w 69, 3) := by decide +kernel
theorem dX5_release_61 : decode cX5_release 61 = .ok (.lcmp, 1) := by decide +kernel
theorem dX5_release_62 : decode cX5_release 62 = .ok (.ifCond .ne 33, 3) := by decide +kernel
theorem dX5_release_65 : decode cX5_release 65 = .ok (.aload_n 0, 1) := by decide +kernel
theorem dX5_release_66 : decode cX5_release 66 = .ok (.getfield 7, 3) := by decide +kernel
theorem dX5_release_69 : decode cX5_release 69 = .ok (.iload_n 1, 1) := by decide +kernel
theorem dX5_release_70 : decode cX5_release 70 = .ok (.iconst 2, 1) := by decide +kernel
theorem dX5_release_71 : decode cX5_release 71 = .ok (.isub, 1) := by decide +kernel
theorem dX5_release_72 : decode cX5_release 72 = .ok (.laload, 1) := by decide +kernel
theorem dX5_release_73 : decode cX5_release 73 = .ok (.l2i, 1) := by decide +kernel
theorem dX5_release_74 : decode cX5_release 74 = .ok (.istore 5, 2) := by decide +kernel
theorem dX5_release_76 : decode cX5_release 76 = .ok (.iload_n 1, 1) := by decide +kernel
theorem dX5_release_77 : decode cX5_release 77 = .ok (.iconst 1, 1) := by decide +kernel
theorem dX5_release_78 : decode cX5_release 78 = .ok (.isub, 1) := by decide +kernel
theorem dX5_release_79 : decode cX5_release 79 = .ok (.iload 5, 2) := by decide +kernel
theorem dX5_release_81 : decode cX5_release 81 = .ok (.isub, 1) := by decide +kernel
theorem dX5_release_82 : decode cX5_release 82 = .ok (.istore_n 2, 1) := by decide +kernel
theorem dX5_release_83 : decode cX5_release 83 = .ok (.aload_n 0, 1) := by decide +kernel
theorem dX5_release_84 : decode cX5_release 84 = .ok (.iload_n 2, 1) := by decide +kernel
theorem dX5_release_85 : decode cX5_release 85 = .ok (.invokevirtual 89, 3) := by decide +kernel
theorem dX5_release_88 : decode cX5_release 88 = .ok (.iload_n 3, 1) := by decide +kernel
theorem dX5_release_89 : decode cX5_release 89 = .ok (.iconst 1, 1) := by decide +kernel
theorem dX5_release_90 : decode cX5_release 90 = .ok (.iload 5, 2) := by decide +kernel
theorem dX5_release_92 : decode cX5_release 92 = .ok (.iadd, 1) := by decide +kernel
theorem dX5_release_93 : decode cX5_release 93 = .ok (.iadd, 1) := by decide +kernel
theorem dX5_release_94 : decode cX5_release 94 = .ok (.istore_n 3, 1) := by decide +kernel
theorem dX5_release_95 : decode cX5_release 95 = .ok (.aload_n 0, 1) := by decide +kernel
theorem dX5_release_96 : decode cX5_release 96 = .ok (.iload_n 2, 1) := by decide +kernel
theorem dX5_release_97 : decode cX5_release 97 = .ok (.iload_n 3, 1) := by decide +kernel
theorem dX5_release_98 : decode cX5_release 98 = .ok (.lconst 0, 1) := by decide +kernel
theorem dX5_release_99 : decode cX5_release 99 = .ok (.invokevirtual 42, 3) := by decide +kernel
theorem dX5_release_102 : decode cX5_release 102 = .ok (.iload_n 3, 1) := by decide +kernel
theorem dX5_release_103 : decode cX5_release 103 = .ok (.ireturn, 1) := by decide +kernel
theorem dX5_free_0 : decode cX5_free 0 = .ok (.aload_n 0, 1) := by decide +kernel
theorem dX5_free_1 : decode cX5_free 1 = .ok (.iload_n 1, 1) := by decide +kernel
theorem dX5_free_2 : decode cX5_free 2 = .ok (.invokevirtual 99, 3) := by decide +kernel
theorem dX5_free_5 : decode cX5_free 5 = .ok (.ifCond .eq 6, 3) := by decide +kernel
theorem dX5_free_8 : decode cX5_free 8 = .ok (.bipush (-2), 2) := by decide +kernel
theorem dX5_free_10 : decode cX5_free 10 = .ok (.ireturn, 1) := by decide +kernel
theorem dX5_free_11 : decode cX5_free 11 = .ok (.aload_n 0, 1) := by decide +kernel
theorem dX5_free_12 : decode cX5_free 12 = .ok (.getfield 35, 3) := by decide +kernel
theorem dX5_free_15 : decode cX5_free 15 = .ok (.ifCond .eq 6, 3) := by decide +kernel
theorem dX5_free_18 : decode cX5_free 18 = .ok (.bipush (-3), 2) := by decide +kernel
theorem dX5_free_20 : decode cX5_free 20 = .ok (.ireturn, 1) := by decide +kernel
theorem dX5_free_21 : decode cX5_free 21 = .ok (.aload_n 0, 1) := by decide +kernel
theorem dX5_free_22 : decode cX5_free 22 = .ok (.iconst 0, 1) := by decide +kernel
theorem dX5_free_23 : decode cX5_free 23 = .ok (.putfield 46, 3) := by decide +kernel
theorem dX5_free_26 : decode cX5_free 26 = .ok (.aload_n 0, 1) := by decide +kernel
theorem dX5_free_27 : decode cX5_free 27 = .ok (.iload_n 1, 1) := by decide +kernel
theorem dX5_free_28 : decode cX5_free 28 = .ok (.invokevirtual 102, 3) := by decide +kernel
theorem dX5_free_31 : decode cX5_free 31 = .ok (.ireturn, 1) := by decide +kernel
theorem dX5_moved_0 : decode cX5_moved 0 = .ok (.aload_n 0, 1) := by decide +kernel
theorem dX5_moved_1 : decode cX5_moved 1 = .ok (.iload_n 3, 1) := by decide +kernel
theorem dX5_moved_2 : decode cX5_moved 2 = .ok (.invokevirtual 86, 3) := by decide +kernel
theorem dX5_moved_5 : decode cX5_moved 5 = .ok (.istore 4, 2) := by decide +kernel
theorem dX5_moved_7 : decode cX5_moved 7 = .ok (.iload 4, 2) := by decide +kernel
theorem dX5_moved_9 : decode cX5_moved 9 = .ok (.ifCond .ne 15, 3) := by decide +kernel
theorem dX5_moved_12 : decode cX5_moved 12 = .ok (.aload_n 0, 1) := by decide +kernel
theorem dX5_moved_13 : decode cX5_moved 13 = .ok (.dup, 1) := by decide +kernel
theorem dX5_moved_14 : decode cX5_moved 14 = .ok (.getfield 39, 3) := by decide +kernel
theorem dX5_moved_17 : decode cX5_moved 17 = .ok (.iconst 1, 1) := by decide +kernel
theorem dX5_moved_18 : decode cX5_moved 18 = .ok (.iadd, 1) := by decide +kernel
theorem dX5_moved_19 : decode cX5_moved 19 = .ok (.putfield 39, 3) := by decide +kernel
theorem dX5_moved_22 : decode cX5_moved 22 = .ok (.iconst (-1), 1) := by decide +kernel
theorem dX5_moved_23 : decode cX5_moved 23 = .ok (.ireturn, 1) := by decide +kernel
theorem dX5_moved_24 : decode cX5_moved 24 = .ok (.aload_n 0, 1) := by decide +kernel
theorem dX5_moved_25 : decode cX5_moved 25 = .ok (.iconst 0, 1) := by decide +kernel
theorem dX5_moved_26 : decode cX5_moved 26 = .ok (.putfield 46, 3) := by decide +kernel
theorem dX5_moved_29 : decode cX5_moved 29 = .ok (.aload_n 0, 1) := by decide +kernel
theorem dX5_moved_30 : decode cX5_moved 30 = .ok (.iload 4, 2) := by decide +kernel
theorem dX5_moved_32 : decode cX5_moved 32 = .ok (.invokevirtual 89, 3) := by decide +kernel
theorem dX5_moved_35 : decode cX5_moved 35 = .ok (.aload_n 0, 1) := by decide +kernel
theorem dX5_moved_36 : decode cX5_moved 36 = .ok (.iload 4, 2) := by decide +kernel
theorem dX5_moved_38 : decode cX5_moved 38 = .ok (.aload_n 0, 1) := by decide +kernel
theorem dX5_moved_39 : decode cX5_moved 39 = .ok (.iload 4, 2) := by decide +kernel
theorem dX5_moved_41 : decode cX5_moved 41 = .ok (.invokevirtual 66, 3) := by decide +kernel
theorem dX5_moved_44 : decode cX5_moved 44 = .ok (.iload_n 3, 1) := by decide +kernel
theorem dX5_moved_45 : decode cX5_moved 45 = .ok (.lconst 0, 1) := by decide +kernel
theorem dX5_moved_46 : decode cX5_moved 46 = .ok (.invokevirtual 95, 3) := by decide +kernel
theorem dX5_moved_49 : decode cX5_moved 49 = .ok (.iconst 0, 1) := by decide +kernel
theorem dX5_moved_50 : decode cX5_moved 50 = .ok (.istore 5, 2) := by decide +kernel
theorem dX5_moved_52 : decode cX5_moved 52 = .ok (.iload 5, 2) := by decide +kernel
theorem dX5_moved_54 : decode cX5_moved 54 = .ok (.iload_n 2, 1) := by decide +kernel
theorem dX5_moved_55 : decode cX5_moved 55 = .ok (.if_icmp .ge 28, 3) := by decide +kernel
theorem dX5_moved_58 : decode cX5_moved 58 = .ok (.aload_n 0, 1) := by decide +kernel
theorem dX5_moved_59 : decode cX5_moved 59 = .ok (.getfield 7, 3) := by decide +kernel
theorem dX5_moved_62 : decode cX5_moved 62 = .ok (.iload 4, 2) := by decide +kernel
theorem dX5_moved_64 : decode cX5_moved 64 = .ok (.iload 5, 2) := by decide +kernel
theorem dX5_moved_66 : decode cX5_moved 66 = .ok (.iadd, 1) := by decide +kernel
theorem dX5_moved_67 : decode cX5_moved 67 = .ok (.aload_n 0, 1) := by decide +kernel
theorem dX5_moved_68 : decode cX5_moved 68 = .ok (.getfield 7, 3) := by decide +kernel
theorem dX5_moved_71 : decode cX5_moved 71 = .ok (.iload_n 1, 1) := by decide +kernel
theorem dX5_moved_72 : decode cX5_moved 72 = .ok (.iload 5, 2) := by decide +kernel
theorem dX5_moved_74 : decode cX5_moved 74 = .ok (.iadd, 1) := by decide +kernel
theorem dX5_moved_75 : decode cX5_moved 75 = .ok (.laload, 1) := by decide +kernel
theorem dX5_moved_76 : decode cX5_moved 76 = .ok (.lastore, 1) := by decide +kernel
theorem dX5_moved_77 : decode cX5_moved 77 = .ok (.iinc 5 1, 3) := by decide +kernel
theorem dX5_moved_80 : decode cX5_moved 80 = .ok (.goto (-28), 3) := by decide +kernel
theorem dX5_moved_83 : decode cX5_moved 83 = .ok (.aload_n 0, 1) := by decide +kernel
theorem dX5_moved_84 : decode cX5_moved 84 = .ok (.iload_n 1, 1) := by decide +kernel
theorem dX5_moved_85 : decode cX5_moved 85 = .ok (.invokevirtual 102, 3) := by decide +kernel
theorem dX5_moved_88 : decode cX5_moved 88 = .ok (.pop, 1) := by decide +kernel
theorem dX5_moved_89 : decode cX5_moved 89 = .ok (.iload 4, 2) := by decide +kernel
theorem dX5_moved_91 : decode cX5_moved 91 = .ok (.ireturn, 1) := by decide +kernel
theorem dX5_resize_0 : decode cX5_resize 0 = .ok (.aload_n 0, 1) := by decide +kernel
theorem dX5_resize_1 : decode cX5_resize 1 = .ok (.iload_n 1, 1) := by decide +kernel
theorem dX5_resize_2 : decode cX5_resize 2 = .ok (.invokevirtual 99, 3) := by decide +kernel
theorem dX5_resize_5 : decode cX5_resize 5 = .ok (.ifCond .ne 15, 3) := by decide +kernel
theorem dX5_resize_8 : decode cX5_resize 8 = .ok (.iload_n 2, 1) := by decide +kernel
theorem dX5_resize_9 : decode cX5_resize 9 = .ok (.i2l, 1) := by decide +kernel
theorem dX5_resize_10 : decode cX5_resize 10 = .ok (.lconst 1, 1) := by decide +kernel
theorem dX5_resize_11 : decode cX5_resize 11 = .ok (.ldc2_w 51, 3) := by decide +kernel
theorem dX5_resize_14 : decode cX5_resize 14 = .ok (.invokestatic 53, 3) := by decide +kernel
theorem dX5_resize_17 : decode cX5_resize 17 = .ok (.ifCond .ne 6, 3) := by decide +kernel
theorem dX5_resize_20 : decode cX5_resize 20 = .ok (.bipush (-2), 2) := by decide +kernel
theorem dX5_resize_22 : decode cX5_resize 22 = .ok (.ireturn, 1) := by decide +kernel
theorem dX5_resize_23 : decode cX5_resize 23 = .ok (.aload_n 0, 1) := by decide +kernel
theorem dX5_resize_24 : decode cX5_resize 24 = .ok (.getfield 35, 3) := by decide +kernel
theorem dX5_resize_27 : decode cX5_resize 27 = .ok (.ifCond .eq 6, 3) := by decide +kernel
theorem dX5_resize_30 : decode cX5_resize 30 = .ok (.bipush (-3), 2) := by decide +kernel
theorem dX5_resize_32 : decode cX5_resize 32 = .ok (.ireturn, 1) := by decide +kernel
theorem dX5_resize_33 : decode cX5_resize 33 = .ok (.iload_n 2, 1) := by decide +kernel
theorem dX5_resize_34 : decode cX5_resize 34 = .ok (.invokestatic 92, 3) := by decide +kernel
theorem dX5_resize_37 : decode cX5_resize 37 = .ok (.istore_n 3, 1) := by decide +kernel
theorem dX5_resize_38 : decode cX5_resize 38 = .ok (.aload_n 0, 1) := by decide +kernel
theorem dX5_resize_39 : decode cX5_resize 39 = .ok (.iload_n 1, 1) := by decide +kernel
theorem dX5_resize_40 : decode cX5_resize 40 = .ok (.invokevirtual 66, 3) := by decide +kernel
theorem dX5_resize_43 : decode cX5_resize 43 = .ok (.istore 4, 2) := by decide +kernel
theorem dX5_resize_45 : decode cX5_resize 45 = .ok (.aload_n 0, 1) := by decide +kernel
theorem dX5_resize_46 : decode cX5_resize 46 = .ok (.getfield 7, 3) := by decide +kernel
theorem dX5_resize_49 : decode cX5_resize 49 = .ok (.iload_n 1, 1) := by decide +kernel
theorem dX5_resize_50 : decode cX5_resize 50 = .ok (.iconst 1, 1) := by decide +kernel
theorem dX5_resize_51 : decode cX5_resize 51 = .ok (.isub, 1) := by decide +kernel
theorem dX5_resize_52 : decode cX5_resize 52 = .ok (.laload, 1) := by decide +kernel
theorem dX5_resize_53 : decode cX5_resize 53 = .ok (.ldc2_w 69, 3) := by decide +kernel
theorem dX5_resize_56 : decode cX5_resize 56 = .ok (.land, 1) := by decide +kernel
theorem dX5_resize_57 : decode cX5_resize 57 = .ok (.lstore 5, 2) := by decide +kernel
theorem dX5_resize_59 : decode cX5_resize 59 = .ok (.aload_n 0, 1) := by decide +kernel
theorem dX5_resize_60 : decode cX5_resize 60 = .ok (.iload_n 1, 1) := by decide +kernel
theorem dX5_resize_61 : decode cX5_resize 61 = .ok (.invokevirtual 75, 3) := by decide +kernel
theorem dX5_resize_64 : decode cX5_resize 64 = .ok (.istore 7, 2) := by decide +kernel
theorem dX5_resize_66 : decode cX5_resize 66 = .ok (.iload 7, 2) := by decide +kernel
theorem dX5_resize_68 : decode cX5_resize 68 = .ok (.ifCond .le 16, 3) := by decide +kernel
theorem dX5_resize_71 : decode cX5_resize 71 = .ok (.aload_n 0, 1) := by decide +kernel
theorem dX5_resize_72 : decode cX5_resize 72 = .ok (.iload 7, 2) := by decide +kernel
theorem dX5_resize_74 : decode cX5_resize 74 = .ok (.invokevirtual 82, 3) := by decide +kernel
theorem dX5_resize_77 : decode cX5_resize 77 = .ok (.ifCond .eq 7, 3) := by decide +kernel
theorem dX5_resize_80 : decode cX5_resize 80 = .ok (.iconst 1, 1) := by decide +kernel
theorem dX5_resize_81 : decode cX5_resize 81 = .ok (.goto 4, 3) := by decide +kernel
theorem dX5_resize_84 : decode cX5_resize 84 = .ok (.iconst 0, 1) := by decide +kernel
theorem dX5_resize_85 : decode cX5_resize 85 = .ok (.istore 8, 2) := by decide +kernel
theorem dX5_resize_87 : decode cX5_resize 87 = .ok (.iload 8, 2) := by decide +kernel
theorem dX5_resize_89 : decode cX5_resize 89 = .ok (.ifCond .eq 17, 3) := by decide +kernel
theorem dX5_resize_92 : decode cX5_resize 92 = .ok (.iload 4, 2) := by decide +kernel
theorem dX5_resize_94 : decode cX5_resize 94 = .ok (.iconst 1, 1) := by decide +kernel
theorem dX5_resize_95 : decode cX5_resize 95 = .ok (.iadd, 1) := by decide +kernel
theorem dX5_resize_96 : decode cX5_resize 96 = .ok (.aload_n 0, 1) := by decide +kernel
theorem dX5_resize_97 : decode cX5_resize 97 = .ok (.iload 7, 2) := by decide +kernel
theorem dX5_resize_99 : decode cX5_resize 99 = .ok (.invokevirtual 66, 3) := by decide +kernel
theorem dX5_resize_102 : decode cX5_resize 102 = .ok (.iadd, 1) := by decide +kernel
theorem dX5_resize_103 : decode cX5_resize 103 = .ok (.goto 5, 3) := by decide +kernel
theorem dX5_resize_106 : decode cX5_resize 106 = .ok (.iload 4, 2) := by decide +kernel
theorem dX5_resize_108 : decode cX5_resize 108 = .ok (.istore 9, 2) := by decide +kernel
theorem dX5_resize_110 : decode cX5_resize 110 = .ok (.iload_n 3, 1) := by decide +kernel
theorem dX5_resize_111 : decode cX5_resize 111 = .ok (.iload 9, 2) := by decide +kernel
theorem dX5_resize_113 : decode cX5_resize 113 = .ok (.if_icmp .le 12, 3) := by decide +kernel
theorem dX5_resize_116 : decode cX5_resize 116 = .ok (.aload_n 0, 1) := by decide +kernel
theorem dX5_resize_117 : decode cX5_resize 117 = .ok (.iload_n 1, 1) := by decide +kernel
theorem dX5_resize_118 : decode cX5_resize 118 = .ok (.iload 4, 2) := by decide +kernel
theorem dX5_resize_120 : decode cX5_resize 120 = .ok (.iload_n 3, 1) := by decide +kernel
theorem dX5_resize_121 : decode cX5_resize 121 = .ok (.invokevirtual 105, 3) := by decide +kernel
theorem dX5_resize_124 : decode cX5_resize 124 = .ok (.ireturn, 1) := by decide +kernel
theorem dX5_resize_125 : decode cX5_resize 125 = .ok (.aload_n 0, 1) := by decide +kernel
theorem dX5_resize_126 : decode cX5_resize 126 = .ok (.iconst 0, 1) := by decide +kernel
theorem dX5_resize_127 : decode cX5_resize 127 = .ok (.putfield 46, 3) := by decide +kernel
theorem dX5_resize_130 : decode cX5_resize 130 = .ok (.iload_n 3, 1) := by decide +kernel
theorem dX5_resize_131 : decode cX5_resize 131 = .ok (.iload 4, 2) := by decide +kernel
theorem dX5_resize_133 : decode cX5_resize 133 = .ok (.if_icmp .gt 13, 3) := by decide +kernel
theorem dX5_resize_136 : decode cX5_resize 136 = .ok (.iload 4, 2) := by decide +kernel
theorem dX5_resize_138 : decode cX5_resize 138 = .ok (.iload_n 3, 1) := by decide +kernel
theorem dX5_resize_139 : decode cX5_resize 139 = .ok (.isub, 1) := by decide +kernel
theorem dX5_resize_140 : decode cX5_resize 140 = .ok (.iconst 4, 1) := by decide +kernel
theorem dX5_resize_141 : decode cX5_resize 141 = .ok (.if_icmp .ge 5, 3) := by decide +kernel
theorem dX5_resize_144 : decode cX5_resize 144 = .ok (.iload_n 1, 1) := by decide +kernel
theorem dX5_resize_145 : decode cX5_resize 145 = .ok (.ireturn, 1) := by decide +kernel
theorem dX5_resize_146 : decode cX5_resize 146 = .ok (.iload 8, 2) := by decide +kernel
theorem dX5_resize_148 : decode cX5_resize 148 = .ok (.ifCond .eq 9, 3) := by decide +kernel
theorem dX5_resize_151 : decode cX5_resize 151 = .ok (.aload_n 0, 1) := by decide +kernel
theorem dX5_resize_152 : decode cX5_resize 152 = .ok (.iload 7, 2) := by decide +kernel
theorem dX5_resize_154 : decode cX5_resize 154 = .ok (.invokevirtual 89, 3) := by decide +kernel
theorem dX5_resize_157 : decode cX5_resize 157 = .ok (.aload_n 0, 1) := by decide +kernel
theorem dX5_resize_158 : decode cX5_resize 158 = .ok (.iload_n 1, 1) := by decide +kernel
theorem dX5_resize_159 : decode cX5_resize 159 = .ok (.iload 9, 2) := by decide +kernel
theorem dX5_resize_161 : decode cX5_resize 161 = .ok (.iload_n 3, 1) := by decide +kernel
theorem dX5_resize_162 : decode cX5_resize 162 = .ok (.lload 5, 2) := by decide +kernel
theorem dX5_resize_164 : decode cX5_resize 164 = .ok (.invokevirtual 95, 3) := by decide +kernel
theorem dX5_resize_167 : decode cX5_resize 167 = .ok (.iload_n 1, 1) := by decide +kernel
theorem dX5_resize_168 : decode cX5_resize 168 = .ok (.ireturn, 1) := by decide +kernel
theorem dX5_grow_0 : decode cX5_grow 0 = .ok (.iload_n 1, 1) := by decide +kernel
theorem dX5_grow_1 : decode cX5_grow 1 = .ok (.i2l, 1) := by decide +kernel
theorem dX5_grow_2 : decode cX5_grow 2 = .ok (.ldc2_w 73, 3) := by decide +kernel
theorem dX5_grow_5 : decode cX5_grow 5 = .ok (.ldc2_w 109, 3) := by decide +kernel
theorem dX5_grow_8 : decode cX5_grow 8 = .ok (.invokestatic 53, 3) := by decide +kernel
theorem dX5_grow_11 : decode cX5_grow 11 = .ok (.ifCond .ne 6, 3) := by decide +kernel
theorem dX5_grow_14 : decode cX5_grow 14 = .ok (.bipush (-2), 2) := by decide +kernel
theorem dX5_grow_16 : decode cX5_grow 16 = .ok (.ireturn, 1) := by decide +kernel
theorem dX5_grow_17 : decode cX5_grow 17 = .ok (.aload_n 0, 1) := by decide +kernel
theorem dX5_grow_18 : decode cX5_grow 18 = .ok (.getfield 35, 3) := by decide +kernel
theorem dX5_grow_21 : decode cX5_grow 21 = .ok (.ifCond .eq 6, 3) := by decide +kernel
theorem dX5_grow_24 : decode cX5_grow 24 = .ok (.bipush (-3), 2) := by decide +kernel
theorem dX5_grow_26 : decode cX5_grow 26 = .ok (.ireturn, 1) := by decide +kernel
theorem dX5_grow_27 : decode cX5_grow 27 = .ok (.aload_n 0, 1) := by decide +kernel
theorem dX5_grow_28 : decode cX5_grow 28 = .ok (.getfield 32, 3) := by decide +kernel
theorem dX5_grow_31 : decode cX5_grow 31 = .ok (.iload_n 1, 1) := by decide +kernel
theorem dX5_grow_32 : decode cX5_grow 32 = .ok (.iadd, 1) := by decide +kernel
theorem dX5_grow_33 : decode cX5_grow 33 = .ok (.sipush 2048, 3) := by decide +kernel
theorem dX5_grow_36 : decode cX5_grow 36 = .ok (.if_icmp .le 6, 3) := by decide +kernel
theorem dX5_grow_39 : decode cX5_grow 39 = .ok (.bipush (-4), 2) := by decide +kernel
theorem dX5_grow_41 : decode cX5_grow 41 = .ok (.ireturn, 1) := by decide +kernel
theorem dX5_grow_42 : decode cX5_grow 42 = .ok (.iconst 1, 1) := by decide +kernel
theorem dX5_grow_43 : decode cX5_grow 43 = .ok (.istore_n 2, 1) := by decide +kernel
theorem dX5_grow_44 : decode cX5_grow 44 = .ok (.aload_n 0, 1) := by decide +kernel
theorem dX5_grow_45 : decode cX5_grow 45 = .ok (.iload_n 2, 1) := by decide +kernel
theorem dX5_grow_46 : decode cX5_grow 46 = .ok (.invokevirtual 75, 3) := by decide +kernel
theorem dX5_grow_49 : decode cX5_grow 49 = .ok (.ifCond .le 12, 3) := by decide +kernel
theorem dX5_grow_52 : decode cX5_grow 52 = .ok (.aload_n 0, 1) := by decide +kernel
theorem dX5_grow_53 : decode cX5_grow 53 = .ok (.iload_n 2, 1) := by decide +kernel
theorem dX5_grow_54 : decode cX5_grow 54 = .ok (.invokevirtual 75, 3) := by decide +kernel
theorem dX5_grow_57 : decode cX5_grow 57 = .ok (.istore_n 2, 1) := by decide +kernel
theorem dX5_grow_58 : decode cX5_grow 58 = .ok (.goto (-14), 3) := by decide +kernel
theorem dX5_grow_61 : decode cX5_grow 61 = .ok (.aload_n 0, 1) := by decide +kernel
theorem dX5_grow_62 : decode cX5_grow 62 = .ok (.iconst 0, 1) := by decide +kernel
theorem dX5_grow_63 : decode cX5_grow 63 = .ok (.putfield 46, 3) := by decide +kernel
theorem dX5_grow_66 : decode cX5_grow 66 = .ok (.aload_n 0, 1) := by decide +kernel
theorem dX5_grow_67 : decode cX5_grow 67 = .ok (.getfield 32, 3) := by decide +kernel
theorem dX5_grow_70 : decode cX5_grow 70 = .ok (.istore_n 3, 1) := by decide +kernel
theorem dX5_grow_71 : decode cX5_grow 71 = .ok (.aload_n 0, 1) := by decide +kernel
theorem dX5_grow_72 : decode cX5_grow 72 = .ok (.dup, 1) := by decide +kernel
theorem dX5_grow_73 : decode cX5_grow 73 = .ok (.getfield 32, 3) := by decide +kernel
theorem dX5_grow_76 : decode cX5_grow 76 = .ok (.iload_n 1, 1) := by decide +kernel
theorem dX5_grow_77 : decode cX5_grow 77 = .ok (.iadd, 1) := by decide +kernel
theorem dX5_grow_78 : decode cX5_grow 78 = .ok (.putfield 32, 3) := by decide +kernel
theorem dX5_grow_81 : decode cX5_grow 81 = .ok (.aload_n 0, 1) := by decide +kernel
theorem dX5_grow_82 : decode cX5_grow 82 = .ok (.getfield 7, 3) := by decide +kernel
theorem dX5_grow_85 : decode cX5_grow 85 = .ok (.iload_n 3, 1) := by decide +kernel
theorem dX5_grow_86 : decode cX5_grow 86 = .ok (.ldc2_w 73, 3) := by decide +kernel
theorem dX5_grow_89 : decode cX5_grow 89 = .ok (.iload_n 1, 1) := by decide +kernel
theorem dX5_grow_90 : decode cX5_grow 90 = .ok (.iconst 1, 1) := by decide +kernel
theorem dX5_grow_91 : decode cX5_grow 91 = .ok (.isub, 1) := by decide +kernel
theorem dX5_grow_92 : decode cX5_grow 92 = .ok (.i2l, 1) := by decide +kernel
theorem dX5_grow_93 : decode cX5_grow 93 = .ok (.lmul, 1) := by decide +kernel
theorem dX5_grow_94 : decode cX5_grow 94 = .ok (.aload_n 0, 1) := by decide +kernel
theorem dX5_grow_95 : decode cX5_grow 95 = .ok (.iload_n 2, 1) := by decide +kernel
theorem dX5_grow_96 : decode cX5_grow 96 = .ok (.invokevirtual 82, 3) := by decide +kernel
theorem dX5_grow_99 : decode cX5_grow 99 = .ok (.ifCond .eq 9, 3) := by decide +kernel
theorem dX5_grow_102 : decode cX5_grow 102 = .ok (.ldc2_w 69, 3) := by decide +kernel
theorem dX5_grow_105 : decode cX5_grow 105 = .ok (.goto 4, 3) := by decide +kernel
theorem dX5_grow_108 : decode cX5_grow 108 = .ok (.lconst 0, 1) := by decide +kernel
theorem dX5_grow_109 : decode cX5_grow 109 = .ok (.ladd, 1) := by decide +kernel
theorem dX5_grow_110 : decode cX5_grow 110 = .ok (.lastore, 1) := by decide +kernel
theorem dX5_grow_111 : decode cX5_grow 111 = .ok (.aload_n 0, 1) := by decide +kernel
theorem dX5_grow_112 : decode cX5_grow 112 = .ok (.iload_n 3, 1) := by decide +kernel
theorem dX5_grow_113 : decode cX5_grow 113 = .ok (.iconst 1, 1) := by decide +kernel
theorem dX5_grow_114 : decode cX5_grow 114 = .ok (.iadd, 1) := by decide +kernel
theorem dX5_grow_115 : decode cX5_grow 115 = .ok (.invokevirtual 102, 3) := by decide +kernel
theorem dX5_grow_118 : decode cX5_grow 118 = .ok (.pop, 1) := by decide +kernel
theorem dX5_grow_119 : decode cX5_grow 119 = .ok (.aload_n 0, 1) := by decide +kernel
theorem dX5_grow_120 : decode cX5_grow 120 = .ok (.getfield 32, 3) := by decide +kernel
theorem dX5_grow_123 : decode cX5_grow 123 = .ok (.ireturn, 1) := by decide +kernel
theorem dX5_size_0 : decode cX5_size 0 = .ok (.aload_n 0, 1) := by decide +kernel
theorem dX5_size_1 : decode cX5_size 1 = .ok (.iload_n 1, 1) := by decide +kernel
theorem dX5_size_2 : decode cX5_size 2 = .ok (.invokevirtual 99, 3) := by decide +kernel
theorem dX5_size_5 : decode cX5_size 5 = .ok (.ifCond .eq 8, 3) := by decide +kernel
theorem dX5_size_8 : decode cX5_size 8 = .ok (.bipush (-2), 2) := by decide +kernel
theorem dX5_size_10 : decode cX5_size 10 = .ok (.goto 20, 3) := by decide +kernel
theorem dX5_size_13 : decode cX5_size 13 = .ok (.aload_n 0, 1) := by decide +kernel
theorem dX5_size_14 : decode cX5_size 14 = .ok (.getfield 35, 3) := by decide +kernel
theorem dX5_size_17 : decode cX5_size 17 = .ok (.ifCond .eq 8, 3) := by decide +kernel
theorem dX5_size_20 : decode cX5_size 20 = .ok (.bipush (-3), 2) := by decide +kernel
theorem dX5_size_22 : decode cX5_size 22 = .ok (.goto 8, 3) := by decide +kernel
theorem dX5_size_25 : decode cX5_size 25 = .ok (.aload_n 0, 1) := by decide +kernel
theorem dX5_size_26 : decode cX5_size 26 = .ok (.iload_n 1, 1) := by decide +kernel
theorem dX5_size_27 : decode cX5_size 27 = .ok (.invokevirtual 66, 3) := by decide +kernel
theorem dX5_size_30 : decode cX5_size 30 = .ok (.ireturn, 1) := by decide +kernel
theorem dX5_put_0 : decode cX5_put 0 = .ok (.aload_n 0, 1) := by decide +kernel
theorem dX5_put_1 : decode cX5_put 1 = .ok (.iload_n 1, 1) := by decide +kernel
theorem dX5_put_2 : decode cX5_put 2 = .ok (.invokevirtual 99, 3) := by decide +kernel
theorem dX5_put_5 : decode cX5_put 5 = .ok (.ifCond .eq 6, 3) := by decide +kernel
theorem dX5_put_8 : decode cX5_put 8 = .ok (.bipush (-2), 2) := by decide +kernel
theorem dX5_put_10 : decode cX5_put 10 = .ok (.ireturn, 1) := by decide +kernel
theorem dX5_put_11 : decode cX5_put 11 = .ok (.aload_n 0, 1) := by decide +kernel
theorem dX5_put_12 : decode cX5_put 12 = .ok (.getfield 35, 3) := by decide +kernel
theorem dX5_put_15 : decode cX5_put 15 = .ok (.ifCond .eq 6, 3) := by decide +kernel
theorem dX5_put_18 : decode cX5_put 18 = .ok (.bipush (-3), 2) := by decide +kernel
theorem dX5_put_20 : decode cX5_put 20 = .ok (.ireturn, 1) := by decide +kernel
theorem dX5_put_21 : decode cX5_put 21 = .ok (.iload_n 2, 1) := by decide +kernel
theorem dX5_put_22 : decode cX5_put 22 = .ok (.i2l, 1) := by decide +kernel
theorem dX5_put_23 : decode cX5_put 23 = .ok (.lconst 0, 1) := by decide +kernel
theorem dX5_put_24 : decode cX5_put 24 = .ok (.aload_n 0, 1) := by decide +kernel
theorem dX5_put_25 : decode cX5_put 25 = .ok (.iload_n 1, 1) := by decide +kernel
theorem dX5_put_26 : decode cX5_put 26 = .ok (.invokevirtual 66, 3) := by decide +kernel
theorem dX5_put_29 : decode cX5_put 29 = .ok (.iconst 1, 1) := by decide +kernel
theorem dX5_put_30 : decode cX5_put 30 = .ok (.isub, 1) := by decide +kernel
theorem dX5_put_31 : decode cX5_put 31 = .ok (.i2l, 1) := by decide +kernel
theorem dX5_put_32 : decode cX5_put 32 = .ok (.invokestatic 53, 3) := by decide +kernel
theorem dX5_put_35 : decode cX5_put 35 = .ok (.ifCond .ne 6, 3) := by decide +kernel
theorem dX5_put_38 : decode cX5_put 38 = .ok (.bipush (-2), 2) := by decide +kernel
theorem dX5_put_40 : decode cX5_put 40 = .ok (.ireturn, 1) := by decide +kernel
theorem dX5_put_41 : decode cX5_put 41 = .ok (.aload_n 0, 1) := by decide +kernel
theorem dX5_put_42 : decode cX5_put 42 = .ok (.getfield 7, 3) := by decide +kernel
theorem dX5_put_45 : decode cX5_put 45 = .ok (.iload_n 1, 1) := by decide +kernel
theorem dX5_put_46 : decode cX5_put 46 = .ok (.iload_n 2, 1) := by decide +kernel
theorem dX5_put_47 : decode cX5_put 47 = .ok (.iadd, 1) := by decide +kernel
theorem dX5_put_48 : decode cX5_put 48 = .ok (.lload_n 3, 1) := by decide +kernel
theorem dX5_put_49 : decode cX5_put 49 = .ok (.lastore, 1) := by decide +kernel
theorem dX5_put_50 : decode cX5_put 50 = .ok (.iconst 1, 1) := by decide +kernel
theorem dX5_put_51 : decode cX5_put 51 = .ok (.ireturn, 1) := by decide +kernel
theorem dX5_word_0 : decode cX5_word 0 = .ok (.iload_n 1, 1) := by decide +kernel
theorem dX5_word_1 : decode cX5_word 1 = .ok (.i2l, 1) := by decide +kernel
theorem dX5_word_2 : decode cX5_word 2 = .ok (.lconst 0, 1) := by decide +kernel
theorem dX5_word_3 : decode cX5_word 3 = .ok (.aload_n 0, 1) := by decide +kernel
theorem dX5_word_4 : decode cX5_word 4 = .ok (.getfield 32, 3) := by decide +kernel
theorem dX5_word_7 : decode cX5_word 7 = .ok (.iconst 1, 1) := by decide +kernel
theorem dX5_word_8 : decode cX5_word 8 = .ok (.isub, 1) := by decide +kernel
theorem dX5_word_9 : decode cX5_word 9 = .ok (.i2l, 1) := by decide +kernel
theorem dX5_word_10 : decode cX5_word 10 = .ok (.invokestatic 53, 3) := by decide +kernel
theorem dX5_word_13 : decode cX5_word 13 = .ok (.ifCond .eq 12, 3) := by decide +kernel
theorem dX5_word_16 : decode cX5_word 16 = .ok (.aload_n 0, 1) := by decide +kernel
theorem dX5_word_17 : decode cX5_word 17 = .ok (.getfield 7, 3) := by decide +kernel
theorem dX5_word_20 : decode cX5_word 20 = .ok (.iload_n 1, 1) := by decide +kernel
theorem dX5_word_21 : decode cX5_word 21 = .ok (.laload, 1) := by decide +kernel
theorem dX5_word_22 : decode cX5_word 22 = .ok (.goto 4, 3) := by decide +kernel
theorem dX5_word_25 : decode cX5_word 25 = .ok (.lconst 0, 1) := by decide +kernel
theorem dX5_word_26 : decode cX5_word 26 = .ok (.lreturn, 1) := by decide +kernel
theorem dX5_spoil_0 : decode cX5_spoil 0 = .ok (.iload_n 1, 1) := by decide +kernel
theorem dX5_spoil_1 : decode cX5_spoil 1 = .ok (.i2l, 1) := by decide +kernel
theorem dX5_spoil_2 : decode cX5_spoil 2 = .ok (.lconst 0, 1) := by decide +kernel
theorem dX5_spoil_3 : decode cX5_spoil 3 = .ok (.aload_n 0, 1) := by decide +kernel
theorem dX5_spoil_4 : decode cX5_spoil 4 = .ok (.getfield 32, 3) := by decide +kernel
theorem dX5_spoil_7 : decode cX5_spoil 7 = .ok (.iconst 1, 1) := by decide +kernel
theorem dX5_spoil_8 : decode cX5_spoil 8 = .ok (.isub, 1) := by decide +kernel
theorem dX5_spoil_9 : decode cX5_spoil 9 = .ok (.i2l, 1) := by decide +kernel
theorem dX5_spoil_10 : decode cX5_spoil 10 = .ok (.invokestatic 53, 3) := by decide +kernel
theorem dX5_spoil_13 : decode cX5_spoil 13 = .ok (.ifCond .ne 6, 3) := by decide +kernel
theorem dX5_spoil_16 : decode cX5_spoil 16 = .ok (.bipush (-2), 2) := by decide +kernel
theorem dX5_spoil_18 : decode cX5_spoil 18 = .ok (.ireturn, 1) := by decide +kernel
theorem dX5_spoil_19 : decode cX5_spoil 19 = .ok (.aload_n 0, 1) := by decide +kernel
theorem dX5_spoil_20 : decode cX5_spoil 20 = .ok (.getfield 7, 3) := by decide +kernel
theorem dX5_spoil_23 : decode cX5_spoil 23 = .ok (.iload_n 1, 1) := by decide +kernel
theorem dX5_spoil_24 : decode cX5_spoil 24 = .ok (.lload_n 2, 1) := by decide +kernel
theorem dX5_spoil_25 : decode cX5_spoil 25 = .ok (.lastore, 1) := by decide +kernel
theorem dX5_spoil_26 : decode cX5_spoil 26 = .ok (.aload_n 0, 1) := by decide +kernel
theorem dX5_spoil_27 : decode cX5_spoil 27 = .ok (.iconst 1, 1) := by decide +kernel
theorem dX5_spoil_28 : decode cX5_spoil 28 = .ok (.putfield 35, 3) := by decide +kernel
theorem dX5_spoil_31 : decode cX5_spoil 31 = .ok (.iconst 1, 1) := by decide +kernel
theorem dX5_spoil_32 : decode cX5_spoil 32 = .ok (.ireturn, 1) := by decide +kernel
theorem dX5_wrong_0 : decode cX5_wrong 0 = .ok (.aload_n 0, 1) := by decide +kernel
theorem dX5_wrong_1 : decode cX5_wrong 1 = .ok (.iload_n 2, 1) := by decide +kernel
theorem dX5_wrong_2 : decode cX5_wrong 2 = .ok (.putfield 17, 3) := by decide +kernel
theorem dX5_wrong_5 : decode cX5_wrong 5 = .ok (.iload_n 1, 1) := by decide +kernel
theorem dX5_wrong_6 : decode cX5_wrong 6 = .ok (.ireturn, 1) := by decide +kernel
theorem dX5_wrongIn_0 : decode cX5_wrongIn 0 = .ok (.aload_n 0, 1) := by decide +kernel
theorem dX5_wrongIn_1 : decode cX5_wrongIn 1 = .ok (.getfield 7, 3) := by decide +kernel
theorem dX5_wrongIn_4 : decode cX5_wrongIn 4 = .ok (.iload_n 1, 1) := by decide +kernel
theorem dX5_wrongIn_5 : decode cX5_wrongIn 5 = .ok (.laload, 1) := by decide +kernel
theorem dX5_wrongIn_6 : decode cX5_wrongIn 6 = .ok (.lstore_n 3, 1) := by decide +kernel
theorem dX5_wrongIn_7 : decode cX5_wrongIn 7 = .ok (.lload_n 3, 1) := by decide +kernel
theorem dX5_wrongIn_8 : decode cX5_wrongIn 8 = .ok (.iconst 2, 1) := by decide +kernel
theorem dX5_wrongIn_9 : decode cX5_wrongIn 9 = .ok (.lshr, 1) := by decide +kernel
theorem dX5_wrongIn_10 : decode cX5_wrongIn 10 = .ok (.lstore 5, 2) := by decide +kernel
theorem dX5_wrongIn_12 : decode cX5_wrongIn 12 = .ok (.lload_n 3, 1) := by decide +kernel
theorem dX5_wrongIn_13 : decode cX5_wrongIn 13 = .ok (.lconst 1, 1) := by decide +kernel
theorem dX5_wrongIn_14 : decode cX5_wrongIn 14 = .ok (.land, 1) := by decide +kernel
theorem dX5_wrongIn_15 : decode cX5_wrongIn 15 = .ok (.lconst 1, 1) := by decide +kernel
theorem dX5_wrongIn_16 : decode cX5_wrongIn 16 = .ok (.lcmp, 1) := by decide +kernel
theorem dX5_wrongIn_17 : decode cX5_wrongIn 17 = .ok (.ifCond .ne 7, 3) := by decide +kernel
theorem dX5_wrongIn_20 : decode cX5_wrongIn 20 = .ok (.iconst 1, 1) := by decide +kernel
theorem dX5_wrongIn_21 : decode cX5_wrongIn 21 = .ok (.goto 4, 3) := by decide +kernel
theorem dX5_wrongIn_24 : decode cX5_wrongIn 24 = .ok (.iconst 0, 1) := by decide +kernel
theorem dX5_wrongIn_25 : decode cX5_wrongIn 25 = .ok (.istore 7, 2) := by decide +kernel
theorem dX5_wrongIn_27 : decode cX5_wrongIn 27 = .ok (.lload_n 3, 1) := by decide +kernel
theorem dX5_wrongIn_28 : decode cX5_wrongIn 28 = .ok (.lconst 0, 1) := by decide +kernel
theorem dX5_wrongIn_29 : decode cX5_wrongIn 29 = .ok (.lcmp, 1) := by decide +kernel
theorem dX5_wrongIn_30 : decode cX5_wrongIn 30 = .ok (.ifCond .lt 28, 3) := by decide +kernel
theorem dX5_wrongIn_33 : decode cX5_wrongIn 33 = .ok (.lload 5, 2) := by decide +kernel
theorem dX5_wrongIn_35 : decode cX5_wrongIn 35 = .ok (.ldc2_w 111, 3) := by decide +kernel
theorem dX5_wrongIn_38 : decode cX5_wrongIn 38 = .ok (.lcmp, 1) := by decide +kernel
theorem dX5_wrongIn_39 : decode cX5_wrongIn 39 = .ok (.ifCond .lt 19, 3) := by decide +kernel
theorem dX5_wrongIn_42 : decode cX5_wrongIn 42 = .ok (.iload_n 1, 1) := by decide +kernel
theorem dX5_wrongIn_43 : decode cX5_wrongIn 43 = .ok (.i2l, 1) := by decide +kernel
theorem dX5_wrongIn_44 : decode cX5_wrongIn 44 = .ok (.lconst 1, 1) := by decide +kernel
theorem dX5_wrongIn_45 : decode cX5_wrongIn 45 = .ok (.ladd, 1) := by decide +kernel
theorem dX5_wrongIn_46 : decode cX5_wrongIn 46 = .ok (.lload 5, 2) := by decide +kernel
theorem dX5_wrongIn_48 : decode cX5_wrongIn 48 = .ok (.ladd, 1) := by decide +kernel
theorem dX5_wrongIn_49 : decode cX5_wrongIn 49 = .ok (.aload_n 0, 1) := by decide +kernel
theorem dX5_wrongIn_50 : decode cX5_wrongIn 50 = .ok (.getfield 32, 3) := by decide +kernel
theorem dX5_wrongIn_53 : decode cX5_wrongIn 53 = .ok (.i2l, 1) := by decide +kernel
theorem dX5_wrongIn_54 : decode cX5_wrongIn 54 = .ok (.lcmp, 1) := by decide +kernel
theorem dX5_wrongIn_55 : decode cX5_wrongIn 55 = .ok (.ifCond .le 5, 3) := by decide +kernel
theorem dX5_wrongIn_58 : decode cX5_wrongIn 58 = .ok (.iconst 1, 1) := by decide +kernel
theorem dX5_wrongIn_59 : decode cX5_wrongIn 59 = .ok (.ireturn, 1) := by decide +kernel
theorem dX5_wrongIn_60 : decode cX5_wrongIn 60 = .ok (.lload_n 3, 1) := by decide +kernel
theorem dX5_wrongIn_61 : decode cX5_wrongIn 61 = .ok (.ldc2_w 69, 3) := by decide +kernel
theorem dX5_wrongIn_64 : decode cX5_wrongIn 64 = .ok (.land, 1) := by decide +kernel
theorem dX5_wrongIn_65 : decode cX5_wrongIn 65 = .ok (.ldc2_w 69, 3) := by decide +kernel
theorem dX5_wrongIn_68 : decode cX5_wrongIn 68 = .ok (.lcmp, 1) := by decide +kernel
theorem dX5_wrongIn_69 : decode cX5_wrongIn 69 = .ok (.ifCond .ne 7, 3) := by decide +kernel
theorem dX5_wrongIn_72 : decode cX5_wrongIn 72 = .ok (.iconst 1, 1) := by decide +kernel
theorem dX5_wrongIn_73 : decode cX5_wrongIn 73 = .ok (.goto 4, 3) := by decide +kernel
theorem dX5_wrongIn_76 : decode cX5_wrongIn 76 = .ok (.iconst 0, 1) := by decide +kernel
theorem dX5_wrongIn_77 : decode cX5_wrongIn 77 = .ok (.iload_n 2, 1) := by decide +kernel
theorem dX5_wrongIn_78 : decode cX5_wrongIn 78 = .ok (.if_icmp .eq 5, 3) := by decide +kernel
theorem dX5_wrongIn_81 : decode cX5_wrongIn 81 = .ok (.iconst 2, 1) := by decide +kernel
theorem dX5_wrongIn_82 : decode cX5_wrongIn 82 = .ok (.ireturn, 1) := by decide +kernel
theorem dX5_wrongIn_83 : decode cX5_wrongIn 83 = .ok (.iload 7, 2) := by decide +kernel
theorem dX5_wrongIn_85 : decode cX5_wrongIn 85 = .ok (.ifCond .eq 11, 3) := by decide +kernel
theorem dX5_wrongIn_88 : decode cX5_wrongIn 88 = .ok (.iload_n 2, 1) := by decide +kernel
theorem dX5_wrongIn_89 : decode cX5_wrongIn 89 = .ok (.ifCond .eq 7, 3) := by decide +kernel
theorem dX5_wrongIn_92 : decode cX5_wrongIn 92 = .ok (.iconst 3, 1) := by decide +kernel
theorem dX5_wrongIn_93 : decode cX5_wrongIn 93 = .ok (.goto 29, 3) := by decide +kernel
theorem dX5_wrongIn_96 : decode cX5_wrongIn 96 = .ok (.iload 7, 2) := by decide +kernel
theorem dX5_wrongIn_98 : decode cX5_wrongIn 98 = .ok (.ifCond .eq 23, 3) := by decide +kernel
theorem dX5_wrongIn_101 : decode cX5_wrongIn 101 = .ok (.aload_n 0, 1) := by decide +kernel
theorem dX5_wrongIn_102 : decode cX5_wrongIn 102 = .ok (.getfield 7, 3) := by decide +kernel
theorem dX5_wrongIn_105 : decode cX5_wrongIn 105 = .ok (.iload_n 1, 1) := by decide +kernel
theorem dX5_wrongIn_106 : decode cX5_wrongIn 106 = .ok (.lload 5, 2) := by decide +kernel
theorem dX5_wrongIn_108 : decode cX5_wrongIn 108 = .ok (.l2i, 1) := by decide +kernel
theorem dX5_wrongIn_109 : decode cX5_wrongIn 109 = .ok (.iadd, 1) := by decide +kernel
theorem dX5_wrongIn_110 : decode cX5_wrongIn 110 = .ok (.laload, 1) := by decide +kernel
theorem dX5_wrongIn_111 : decode cX5_wrongIn 111 = .ok (.lload 5, 2) := by decide +kernel
theorem dX5_wrongIn_113 : decode cX5_wrongIn 113 = .ok (.lcmp, 1) := by decide +kernel
theorem dX5_wrongIn_114 : decode cX5_wrongIn 114 = .ok (.ifCond .eq 7, 3) := by decide +kernel
theorem dX5_wrongIn_117 : decode cX5_wrongIn 117 = .ok (.iconst 4, 1) := by decide +kernel
theorem dX5_wrongIn_118 : decode cX5_wrongIn 118 = .ok (.goto 4, 3) := by decide +kernel
theorem dX5_wrongIn_121 : decode cX5_wrongIn 121 = .ok (.iconst 0, 1) := by decide +kernel
theorem dX5_wrongIn_122 : decode cX5_wrongIn 122 = .ok (.ireturn, 1) := by decide +kernel
theorem dX5_checkBlocks_0 : decode cX5_checkBlocks 0 = .ok (.iconst 0, 1) := by decide +kernel
theorem dX5_checkBlocks_1 : decode cX5_checkBlocks 1 = .ok (.istore_n 1, 1) := by decide +kernel
theorem dX5_checkBlocks_2 : decode cX5_checkBlocks 2 = .ok (.iload_n 1, 1) := by decide +kernel
theorem dX5_checkBlocks_3 : decode cX5_checkBlocks 3 = .ok (.sipush 2048, 3) := by decide +kernel
theorem dX5_checkBlocks_6 : decode cX5_checkBlocks 6 = .ok (.if_icmp .gt 23, 3) := by decide +kernel
theorem dX5_checkBlocks_9 : decode cX5_checkBlocks 9 = .ok (.aload_n 0, 1) := by decide +kernel
theorem dX5_checkBlocks_10 : decode cX5_checkBlocks 10 = .ok (.getfield 25, 3) := by decide +kernel
theorem dX5_checkBlocks_13 : decode cX5_checkBlocks 13 = .ok (.iload_n 1, 1) := by decide +kernel
theorem dX5_checkBlocks_14 : decode cX5_checkBlocks 14 = .ok (.iconst 0, 1) := by decide +kernel
theorem dX5_checkBlocks_15 : decode cX5_checkBlocks 15 = .ok (.bastore, 1) := by decide +kernel
theorem dX5_checkBlocks_16 : decode cX5_checkBlocks 16 = .ok (.aload_n 0, 1) := by decide +kernel
theorem dX5_checkBlocks_17 : decode cX5_checkBlocks 17 = .ok (.getfield 21, 3) := by decide +kernel
theorem dX5_checkBlocks_20 : decode cX5_checkBlocks 20 = .ok (.iload_n 1, 1) := by decide +kernel
theorem dX5_checkBlocks_21 : decode cX5_checkBlocks 21 = .ok (.iconst 0, 1) := by decide +kernel
theorem dX5_checkBlocks_22 : decode cX5_checkBlocks 22 = .ok (.bastore, 1) := by decide +kernel
theorem dX5_checkBlocks_23 : decode cX5_checkBlocks 23 = .ok (.iinc 1 1, 3) := by decide +kernel
theorem dX5_checkBlocks_26 : decode cX5_checkBlocks 26 = .ok (.goto (-24), 3) := by decide +kernel
theorem dX5_checkBlocks_29 : decode cX5_checkBlocks 29 = .ok (.iconst 0, 1) := by decide +kernel
theorem dX5_checkBlocks_30 : decode cX5_checkBlocks 30 = .ok (.istore_n 1, 1) := by decide +kernel
theorem dX5_checkBlocks_31 : decode cX5_checkBlocks 31 = .ok (.iconst 0, 1) := by decide +kernel
theorem dX5_checkBlocks_32 : decode cX5_checkBlocks 32 = .ok (.istore_n 2, 1) := by decide +kernel
theorem dX5_checkBlocks_33 : decode cX5_checkBlocks 33 = .ok (.iload_n 1, 1) := by decide +kernel
theorem dX5_checkBlocks_34 : decode cX5_checkBlocks 34 = .ok (.aload_n 0, 1) := by decide +kernel
theorem dX5_checkBlocks_35 : decode cX5_checkBlocks 35 = .ok (.getfield 32, 3) := by decide +kernel
theorem dX5_checkBlocks_38 : decode cX5_checkBlocks 38 = .ok (.if_icmp .ge 66, 3) := by decide +kernel
theorem dX5_checkBlocks_41 : decode cX5_checkBlocks 41 = .ok (.aload_n 0, 1) := by decide +kernel
theorem dX5_checkBlocks_42 : decode cX5_checkBlocks 42 = .ok (.iload_n 1, 1) := by decide +kernel
theorem dX5_checkBlocks_43 : decode cX5_checkBlocks 43 = .ok (.iload_n 2, 1) := by decide +kernel
theorem dX5_checkBlocks_44 : decode cX5_checkBlocks 44 = .ok (.invokevirtual 113, 3) := by decide +kernel
theorem dX5_checkBlocks_47 : decode cX5_checkBlocks 47 = .ok (.istore_n 3, 1) := by decide +kernel
theorem dX5_checkBlocks_48 : decode cX5_checkBlocks 48 = .ok (.iload_n 3, 1) := by decide +kernel
theorem dX5_checkBlocks_49 : decode cX5_checkBlocks 49 = .ok (.ifCond .le 10, 3) := by decide +kernel
theorem dX5_checkBlocks_52 : decode cX5_checkBlocks 52 = .ok (.aload_n 0, 1) := by decide +kernel
theorem dX5_checkBlocks_53 : decode cX5_checkBlocks 53 = .ok (.iload_n 3, 1) := by decide +kernel
theorem dX5_checkBlocks_54 : decode cX5_checkBlocks 54 = .ok (.iload_n 1, 1) := by decide +kernel
theorem dX5_checkBlocks_55 : decode cX5_checkBlocks 55 = .ok (.invokevirtual 117, 3) := by decide +kernel
theorem dX5_checkBlocks_58 : decode cX5_checkBlocks 58 = .ok (.ireturn, 1) := by decide +kernel
theorem dX5_checkBlocks_59 : decode cX5_checkBlocks 59 = .ok (.aload_n 0, 1) := by decide +kernel
theorem dX5_checkBlocks_60 : decode cX5_checkBlocks 60 = .ok (.getfield 7, 3) := by decide +kernel
theorem dX5_checkBlocks_63 : decode cX5_checkBlocks 63 = .ok (.iload_n 1, 1) := by decide +kernel
theorem dX5_checkBlocks_64 : decode cX5_checkBlocks 64 = .ok (.laload, 1) := by decide +kernel
theorem dX5_checkBlocks_65 : decode cX5_checkBlocks 65 = .ok (.lconst 1, 1) := by decide +kernel
theorem dX5_checkBlocks_66 : decode cX5_checkBlocks 66 = .ok (.land, 1) := by decide +kernel
theorem dX5_checkBlocks_67 : decode cX5_checkBlocks 67 = .ok (.lconst 1, 1) := by decide +kernel
theorem dX5_checkBlocks_68 : decode cX5_checkBlocks 68 = .ok (.lcmp, 1) := by decide +kernel
theorem dX5_checkBlocks_69 : decode cX5_checkBlocks 69 = .ok (.ifCond .ne 7, 3) := by decide +kernel
theorem dX5_checkBlocks_72 : decode cX5_checkBlocks 72 = .ok (.iconst 1, 1) := by decide +kernel
theorem dX5_checkBlocks_73 : decode cX5_checkBlocks 73 = .ok (.goto 4, 3) := by decide +kernel
theorem dX5_checkBlocks_76 : decode cX5_checkBlocks 76 = .ok (.iconst 0, 1) := by decide +kernel
theorem dX5_checkBlocks_77 : decode cX5_checkBlocks 77 = .ok (.istore_n 2, 1) := by decide +kernel
theorem dX5_checkBlocks_78 : decode cX5_checkBlocks 78 = .ok (.aload_n 0, 1) := by decide +kernel
theorem dX5_checkBlocks_79 : decode cX5_checkBlocks 79 = .ok (.getfield 25, 3) := by decide +kernel
theorem dX5_checkBlocks_82 : decode cX5_checkBlocks 82 = .ok (.iload_n 1, 1) := by decide +kernel
theorem dX5_checkBlocks_83 : decode cX5_checkBlocks 83 = .ok (.iconst 1, 1) := by decide +kernel
theorem dX5_checkBlocks_84 : decode cX5_checkBlocks 84 = .ok (.iadd, 1) := by decide +kernel
theorem dX5_checkBlocks_85 : decode cX5_checkBlocks 85 = .ok (.iload_n 2, 1) := by decide +kernel
theorem dX5_checkBlocks_86 : decode cX5_checkBlocks 86 = .ok (.bastore, 1) := by decide +kernel
theorem dX5_checkBlocks_87 : decode cX5_checkBlocks 87 = .ok (.iload_n 1, 1) := by decide +kernel
theorem dX5_checkBlocks_88 : decode cX5_checkBlocks 88 = .ok (.aload_n 0, 1) := by decide +kernel
theorem dX5_checkBlocks_89 : decode cX5_checkBlocks 89 = .ok (.getfield 7, 3) := by decide +kernel
theorem dX5_checkBlocks_92 : decode cX5_checkBlocks 92 = .ok (.iload_n 1, 1) := by decide +kernel
theorem dX5_checkBlocks_93 : decode cX5_checkBlocks 93 = .ok (.laload, 1) := by decide +kernel
theorem dX5_checkBlocks_94 : decode cX5_checkBlocks 94 = .ok (.iconst 2, 1) := by decide +kernel
theorem dX5_checkBlocks_95 : decode cX5_checkBlocks 95 = .ok (.lshr, 1) := by decide +kernel
theorem dX5_checkBlocks_96 : decode cX5_checkBlocks 96 = .ok (.l2i, 1) := by decide +kernel
theorem dX5_checkBlocks_97 : decode cX5_checkBlocks 97 = .ok (.iconst 1, 1) := by decide +kernel
theorem dX5_checkBlocks_98 : decode cX5_checkBlocks 98 = .ok (.iadd, 1) := by decide +kernel
theorem dX5_checkBlocks_99 : decode cX5_checkBlocks 99 = .ok (.iadd, 1) := by decide +kernel
theorem dX5_checkBlocks_100 : decode cX5_checkBlocks 100 = .ok (.istore_n 1, 1) := by decide +kernel
theorem dX5_checkBlocks_101 : decode cX5_checkBlocks 101 = .ok (.goto (-68), 3) := by decide +kernel
theorem dX5_checkBlocks_104 : decode cX5_checkBlocks 104 = .ok (.iconst 0, 1) := by decide +kernel
theorem dX5_checkBlocks_105 : decode cX5_checkBlocks 105 = .ok (.ireturn, 1) := by decide +kernel
theorem dX5_checkList_0 : decode cX5_checkList 0 = .ok (.aload_n 0, 1) := by decide +kernel
theorem dX5_checkList_1 : decode cX5_checkList 1 = .ok (.getfield 13, 3) := by decide +kernel
theorem dX5_checkList_4 : decode cX5_checkList 4 = .ok (.iload_n 1, 1) := by decide +kernel
theorem dX5_checkList_5 : decode cX5_checkList 5 = .ok (.iaload, 1) := by decide +kernel
theorem dX5_checkList_6 : decode cX5_checkList 6 = .ok (.i2l, 1) := by decide +kernel
theorem dX5_checkList_7 : decode cX5_checkList 7 = .ok (.lstore_n 2, 1) := by decide +kernel
theorem dX5_checkList_8 : decode cX5_checkList 8 = .ok (.iconst 0, 1) := by decide +kernel
theorem dX5_checkList_9 : decode cX5_checkList 9 = .ok (.istore 4, 2) := by decide +kernel
theorem dX5_checkList_11 : decode cX5_checkList 11 = .ok (.lload_n 2, 1) := by decide +kernel
theorem dX5_checkList_12 : decode cX5_checkList 12 = .ok (.lconst 0, 1) := by decide +kernel
theorem dX5_checkList_13 : decode cX5_checkList 13 = .ok (.lcmp, 1) := by decide +kernel
theorem dX5_checkList_14 : decode cX5_checkList 14 = .ok (.ifCond .eq 119, 3) := by decide +kernel
theorem dX5_checkList_17 : decode cX5_checkList 17 = .ok (.lload_n 2, 1) := by decide +kernel
theorem dX5_checkList_18 : decode cX5_checkList 18 = .ok (.lconst 1, 1) := by decide +kernel
theorem dX5_checkList_19 : decode cX5_checkList 19 = .ok (.aload_n 0, 1) := by decide +kernel
theorem dX5_checkList_20 : decode cX5_checkList 20 = .ok (.getfield 32, 3) := by decide +kernel
theorem dX5_checkList_23 : decode cX5_checkList 23 = .ok (.i2l, 1) := by decide +kernel
theorem dX5_checkList_24 : decode cX5_checkList 24 = .ok (.invokestatic 53, 3) := by decide +kernel
theorem dX5_checkList_27 : decode cX5_checkList 27 = .ok (.ifCond .eq 27, 3) := by decide +kernel
theorem dX5_checkList_30 : decode cX5_checkList 30 = .ok (.aload_n 0, 1) := by decide +kernel
theorem dX5_checkList_31 : decode cX5_checkList 31 = .ok (.getfield 25, 3) := by decide +kernel
theorem dX5_checkList_34 : decode cX5_checkList 34 = .ok (.lload_n 2, 1) := by decide +kernel
theorem dX5_checkList_35 : decode cX5_checkList 35 = .ok (.l2i, 1) := by decide +kernel
theorem dX5_checkList_36 : decode cX5_checkList 36 = .ok (.baload, 1) := by decide +kernel
theorem dX5_checkList_37 : decode cX5_checkList 37 = .ok (.ifCond .eq 17, 3) := by decide +kernel
theorem dX5_checkList_40 : decode cX5_checkList 40 = .ok (.aload_n 0, 1) := by decide +kernel
theorem dX5_checkList_41 : decode cX5_checkList 41 = .ok (.getfield 21, 3) := by decide +kernel
theorem dX5_checkList_44 : decode cX5_checkList 44 = .ok (.lload_n 2, 1) := by decide +kernel
theorem dX5_checkList_45 : decode cX5_checkList 45 = .ok (.l2i, 1) := by decide +kernel
theorem dX5_checkList_46 : decode cX5_checkList 46 = .ok (.baload, 1) := by decide +kernel
theorem dX5_checkList_47 : decode cX5_checkList 47 = .ok (.ifCond .ne 7, 3) := by decide +kernel
theorem dX5_checkList_50 : decode cX5_checkList 50 = .ok (.iconst 1, 1) := by decide +kernel
theorem dX5_checkList_51 : decode cX5_checkList 51 = .ok (.goto 4, 3) := by decide +kernel
theorem dX5_checkList_54 : decode cX5_checkList 54 = .ok (.iconst 0, 1) := by decide +kernel
theorem dX5_checkList_55 : decode cX5_checkList 55 = .ok (.istore 5, 2) := by decide +kernel
theorem dX5_checkList_57 : decode cX5_checkList 57 = .ok (.iload 5, 2) := by decide +kernel
theorem dX5_checkList_59 : decode cX5_checkList 59 = .ok (.ifCond .eq 32, 3) := by decide +kernel
theorem dX5_checkList_62 : decode cX5_checkList 62 = .ok (.aload_n 0, 1) := by decide +kernel
theorem dX5_checkList_63 : decode cX5_checkList 63 = .ok (.lload_n 2, 1) := by decide +kernel
theorem dX5_checkList_64 : decode cX5_checkList 64 = .ok (.l2i, 1) := by decide +kernel
theorem dX5_checkList_65 : decode cX5_checkList 65 = .ok (.invokevirtual 66, 3) := by decide +kernel
theorem dX5_checkList_68 : decode cX5_checkList 68 = .ok (.invokestatic 57, 3) := by decide +kernel
theorem dX5_checkList_71 : decode cX5_checkList 71 = .ok (.iload_n 1, 1) := by decide +kernel
theorem dX5_checkList_72 : decode cX5_checkList 72 = .ok (.if_icmp .ne 19, 3) := by decide +kernel
theorem dX5_checkList_75 : decode cX5_checkList 75 = .ok (.aload_n 0, 1) := by decide +kernel
theorem dX5_checkList_76 : decode cX5_checkList 76 = .ok (.getfield 7, 3) := by decide +kernel
theorem dX5_checkList_79 : decode cX5_checkList 79 = .ok (.lload_n 2, 1) := by decide +kernel
theorem dX5_checkList_80 : decode cX5_checkList 80 = .ok (.l2i, 1) := by decide +kernel
theorem dX5_checkList_81 : decode cX5_checkList 81 = .ok (.iconst 1, 1) := by decide +kernel
theorem dX5_checkList_82 : decode cX5_checkList 82 = .ok (.iadd, 1) := by decide +kernel
theorem dX5_checkList_83 : decode cX5_checkList 83 = .ok (.laload, 1) := by decide +kernel
theorem dX5_checkList_84 : decode cX5_checkList 84 = .ok (.iload 4, 2) := by decide +kernel
theorem dX5_checkList_86 : decode cX5_checkList 86 = .ok (.i2l, 1) := by decide +kernel
theorem dX5_checkList_87 : decode cX5_checkList 87 = .ok (.lcmp, 1) := by decide +kernel
theorem dX5_checkList_88 : decode cX5_checkList 88 = .ok (.ifCond .eq 22, 3) := by decide +kernel
theorem dX5_checkList_91 : decode cX5_checkList 91 = .ok (.aload_n 0, 1) := by decide +kernel
theorem dX5_checkList_92 : decode cX5_checkList 92 = .ok (.iconst 5, 1) := by decide +kernel
theorem dX5_checkList_93 : decode cX5_checkList 93 = .ok (.iload 4, 2) := by decide +kernel
theorem dX5_checkList_95 : decode cX5_checkList 95 = .ok (.ifCond .ne 7, 3) := by decide +kernel
theorem dX5_checkList_98 : decode cX5_checkList 98 = .ok (.iconst (-1), 1) := by decide +kernel
theorem dX5_checkList_99 : decode cX5_checkList 99 = .ok (.goto 7, 3) := by decide +kernel
theorem dX5_checkList_102 : decode cX5_checkList 102 = .ok (.iload 4, 2) := by decide +kernel
theorem dX5_checkList_104 : decode cX5_checkList 104 = .ok (.iconst 1, 1) := by decide +kernel
theorem dX5_checkList_105 : decode cX5_checkList 105 = .ok (.isub, 1) := by decide +kernel
theorem dX5_checkList_106 : decode cX5_checkList 106 = .ok (.invokevirtual 117, 3) := by decide +kernel
theorem dX5_checkList_109 : decode cX5_checkList 109 = .ok (.ireturn, 1) := by decide +kernel
theorem dX5_checkList_110 : decode cX5_checkList 110 = .ok (.aload_n 0, 1) := by decide +kernel
theorem dX5_checkList_111 : decode cX5_checkList 111 = .ok (.getfield 21, 3) := by decide +kernel
theorem dX5_checkList_114 : decode cX5_checkList 114 = .ok (.lload_n 2, 1) := by decide +kernel
theorem dX5_checkList_115 : decode cX5_checkList 115 = .ok (.l2i, 1) := by decide +kernel
theorem dX5_checkList_116 : decode cX5_checkList 116 = .ok (.iconst 1, 1) := by decide +kernel
theorem dX5_checkList_117 : decode cX5_checkList 117 = .ok (.bastore, 1) := by decide +kernel
theorem dX5_checkList_118 : decode cX5_checkList 118 = .ok (.lload_n 2, 1) := by decide +kernel
theorem dX5_checkList_119 : decode cX5_checkList 119 = .ok (.l2i, 1) := by decide +kernel
theorem dX5_checkList_120 : decode cX5_checkList 120 = .ok (.istore 4, 2) := by decide +kernel
theorem dX5_checkList_122 : decode cX5_checkList 122 = .ok (.aload_n 0, 1) := by decide +kernel
theorem dX5_checkList_123 : decode cX5_checkList 123 = .ok (.getfield 7, 3) := by decide +kernel
theorem dX5_checkList_126 : decode cX5_checkList 126 = .ok (.iload 4, 2) := by decide +kernel
theorem dX5_checkList_128 : decode cX5_checkList 128 = .ok (.laload, 1) := by decide +kernel
theorem dX5_checkList_129 : decode cX5_checkList 129 = .ok (.lstore_n 2, 1) := by decide +kernel
theorem dX5_checkList_130 : decode cX5_checkList 130 = .ok (.goto (-119), 3) := by decide +kernel
theorem dX5_checkList_133 : decode cX5_checkList 133 = .ok (.iconst 0, 1) := by decide +kernel
theorem dX5_checkList_134 : decode cX5_checkList 134 = .ok (.ireturn, 1) := by decide +kernel
theorem dX5_check_0 : decode cX5_check 0 = .ok (.aload_n 0, 1) := by decide +kernel
theorem dX5_check_1 : decode cX5_check 1 = .ok (.iconst (-1), 1) := by decide +kernel
theorem dX5_check_2 : decode cX5_check 2 = .ok (.putfield 17, 3) := by decide +kernel
theorem dX5_check_5 : decode cX5_check 5 = .ok (.aload_n 0, 1) := by decide +kernel
theorem dX5_check_6 : decode cX5_check 6 = .ok (.invokevirtual 121, 3) := by decide +kernel
theorem dX5_check_9 : decode cX5_check 9 = .ok (.istore_n 1, 1) := by decide +kernel
theorem dX5_check_10 : decode cX5_check 10 = .ok (.iconst 0, 1) := by decide +kernel
theorem dX5_check_11 : decode cX5_check 11 = .ok (.istore_n 2, 1) := by decide +kernel
theorem dX5_check_12 : decode cX5_check 12 = .ok (.iload_n 2, 1) := by decide +kernel
theorem dX5_check_13 : decode cX5_check 13 = .ok (.bipush 72, 2) := by decide +kernel
theorem dX5_check_15 : decode cX5_check 15 = .ok (.if_icmp .ge 19, 3) := by decide +kernel
theorem dX5_check_18 : decode cX5_check 18 = .ok (.iload_n 1, 1) := by decide +kernel
theorem dX5_check_19 : decode cX5_check 19 = .ok (.ifCond .ne 15, 3) := by decide +kernel
theorem dX5_check_22 : decode cX5_check 22 = .ok (.aload_n 0, 1) := by decide +kernel
theorem dX5_check_23 : decode cX5_check 23 = .ok (.iload_n 2, 1) := by decide +kernel
theorem dX5_check_24 : decode cX5_check 24 = .ok (.invokevirtual 125, 3) := by decide +kernel
theorem dX5_check_27 : decode cX5_check 27 = .ok (.istore_n 1, 1) := by decide +kernel
theorem dX5_check_28 : decode cX5_check 28 = .ok (.iinc 2 1, 3) := by decide +kernel
theorem dX5_check_31 : decode cX5_check 31 = .ok (.goto (-19), 3) := by decide +kernel
theorem dX5_check_34 : decode cX5_check 34 = .ok (.iconst 1, 1) := by decide +kernel
theorem dX5_check_35 : decode cX5_check 35 = .ok (.istore_n 2, 1) := by decide +kernel
theorem dX5_check_36 : decode cX5_check 36 = .ok (.iload_n 2, 1) := by decide +kernel
theorem dX5_check_37 : decode cX5_check 37 = .ok (.aload_n 0, 1) := by decide +kernel
theorem dX5_check_38 : decode cX5_check 38 = .ok (.getfield 32, 3) := by decide +kernel
theorem dX5_check_41 : decode cX5_check 41 = .ok (.if_icmp .gt 41, 3) := by decide +kernel
theorem dX5_check_44 : decode cX5_check 44 = .ok (.iload_n 1, 1) := by decide +kernel
theorem dX5_check_45 : decode cX5_check 45 = .ok (.ifCond .ne 37, 3) := by decide +kernel
theorem dX5_check_48 : decode cX5_check 48 = .ok (.aload_n 0, 1) := by decide +kernel
theorem dX5_check_49 : decode cX5_check 49 = .ok (.getfield 25, 3) := by decide +kernel
theorem dX5_check_52 : decode cX5_check 52 = .ok (.iload_n 2, 1) := by decide +kernel
theorem dX5_check_53 : decode cX5_check 53 = .ok (.baload, 1) := by decide +kernel
theorem dX5_check_54 : decode cX5_check 54 = .ok (.ifCond .eq 22, 3) := by decide +kernel
theorem dX5_check_57 : decode cX5_check 57 = .ok (.aload_n 0, 1) := by decide +kernel
theorem dX5_check_58 : decode cX5_check 58 = .ok (.getfield 21, 3) := by decide +kernel
theorem dX5_check_61 : decode cX5_check 61 = .ok (.iload_n 2, 1) := by decide +kernel
theorem dX5_check_62 : decode cX5_check 62 = .ok (.baload, 1) := by decide +kernel
theorem dX5_check_63 : decode cX5_check 63 = .ok (.ifCond .ne 13, 3) := by decide +kernel
theorem dX5_check_66 : decode cX5_check 66 = .ok (.aload_n 0, 1) := by decide +kernel
theorem dX5_check_67 : decode cX5_check 67 = .ok (.bipush 6, 2) := by decide +kernel
theorem dX5_check_69 : decode cX5_check 69 = .ok (.iload_n 2, 1) := by decide +kernel
theorem dX5_check_70 : decode cX5_check 70 = .ok (.iconst 1, 1) := by decide +kernel
theorem dX5_check_71 : decode cX5_check 71 = .ok (.isub, 1) := by decide +kernel
theorem dX5_check_72 : decode cX5_check 72 = .ok (.invokevirtual 117, 3) := by decide +kernel
theorem dX5_check_75 : decode cX5_check 75 = .ok (.istore_n 1, 1) := by decide +kernel
theorem dX5_check_76 : decode cX5_check 76 = .ok (.iinc 2 1, 3) := by decide +kernel
theorem dX5_check_79 : decode cX5_check 79 = .ok (.goto (-43), 3) := by decide +kernel
theorem dX5_check_82 : decode cX5_check 82 = .ok (.aload_n 0, 1) := by decide +kernel
theorem dX5_check_83 : decode cX5_check 83 = .ok (.aload_n 0, 1) := by decide +kernel
theorem dX5_check_84 : decode cX5_check 84 = .ok (.getfield 35, 3) := by decide +kernel
theorem dX5_check_87 : decode cX5_check 87 = .ok (.ifCond .eq 11, 3) := by decide +kernel
theorem dX5_check_90 : decode cX5_check 90 = .ok (.iload_n 1, 1) := by decide +kernel
theorem dX5_check_91 : decode cX5_check 91 = .ok (.ifCond .eq 7, 3) := by decide +kernel
theorem dX5_check_94 : decode cX5_check 94 = .ok (.iconst 1, 1) := by decide +kernel
theorem dX5_check_95 : decode cX5_check 95 = .ok (.goto 4, 3) := by decide +kernel
theorem dX5_check_98 : decode cX5_check 98 = .ok (.iconst 0, 1) := by decide +kernel
theorem dX5_check_99 : decode cX5_check 99 = .ok (.putfield 35, 3) := by decide +kernel
theorem dX5_check_102 : decode cX5_check 102 = .ok (.iload_n 1, 1) := by decide +kernel
theorem dX5_check_103 : decode cX5_check 103 = .ok (.ireturn, 1) := by decide +kernel
theorem dX5_where_0 : decode cX5_where 0 = .ok (.aload_n 0, 1) := by decide +kernel
theorem dX5_where_1 : decode cX5_where 1 = .ok (.getfield 17, 3) := by decide +kernel
theorem dX5_where_4 : decode cX5_where 4 = .ok (.ireturn, 1) := by decide +kernel
theorem dX5_listed_0 : decode cX5_listed 0 = .ok (.iload_n 1, 1) := by decide +kernel
theorem dX5_listed_1 : decode cX5_listed 1 = .ok (.i2l, 1) := by decide +kernel
theorem dX5_listed_2 : decode cX5_listed 2 = .ok (.lconst 0, 1) := by decide +kernel
theorem dX5_listed_3 : decode cX5_listed 3 = .ok (.ldc2_w 128, 3) := by decide +kernel
theorem dX5_listed_6 : decode cX5_listed 6 = .ok (.invokestatic 53, 3) := by decide +kernel
theorem dX5_listed_9 : decode cX5_listed 9 = .ok (.ifCond .eq 7, 3) := by decide +kernel
theorem dX5_listed_12 : decode cX5_listed 12 = .ok (.iload_n 2, 1) := by decide +kernel
theorem dX5_listed_13 : decode cX5_listed 13 = .ok (.ifCond .ge 6, 3) := by decide +kernel
theorem dX5_listed_16 : decode cX5_listed 16 = .ok (.bipush (-2), 2) := by decide +kernel
theorem dX5_listed_18 : decode cX5_listed 18 = .ok (.ireturn, 1) := by decide +kernel
theorem dX5_listed_19 : decode cX5_listed 19 = .ok (.aload_n 0, 1) := by decide +kernel
theorem dX5_listed_20 : decode cX5_listed 20 = .ok (.getfield 35, 3) := by decide +kernel
theorem dX5_listed_23 : decode cX5_listed 23 = .ok (.ifCond .eq 6, 3) := by decide +kernel
theorem dX5_listed_26 : decode cX5_listed 26 = .ok (.bipush (-3), 2) := by decide +kernel
theorem dX5_listed_28 : decode cX5_listed 28 = .ok (.ireturn, 1) := by decide +kernel
theorem dX5_listed_29 : decode cX5_listed 29 = .ok (.aload_n 0, 1) := by decide +kernel
theorem dX5_listed_30 : decode cX5_listed 30 = .ok (.getfield 13, 3) := by decide +kernel
theorem dX5_listed_33 : decode cX5_listed 33 = .ok (.iload_n 1, 1) := by decide +kernel
theorem dX5_listed_34 : decode cX5_listed 34 = .ok (.iaload, 1) := by decide +kernel
theorem dX5_listed_35 : decode cX5_listed 35 = .ok (.istore_n 3, 1) := by decide +kernel
theorem dX5_listed_36 : decode cX5_listed 36 = .ok (.iconst 0, 1) := by decide +kernel
theorem dX5_listed_37 : decode cX5_listed 37 = .ok (.istore 4, 2) := by decide +kernel
theorem dX5_listed_39 : decode cX5_listed 39 = .ok (.iload 4, 2) := by decide +kernel
theorem dX5_listed_41 : decode cX5_listed 41 = .ok (.iload_n 2, 1) := by decide +kernel
theorem dX5_listed_42 : decode cX5_listed 42 = .ok (.if_icmp .ge 21, 3) := by decide +kernel
theorem dX5_listed_45 : decode cX5_listed 45 = .ok (.iload_n 3, 1) := by decide +kernel
theorem dX5_listed_46 : decode cX5_listed 46 = .ok (.ifCond .eq 17, 3) := by decide +kernel
theorem dX5_listed_49 : decode cX5_listed 49 = .ok (.aload_n 0, 1) := by decide +kernel
theorem dX5_listed_50 : decode cX5_listed 50 = .ok (.getfield 7, 3) := by decide +kernel
theorem dX5_listed_53 : decode cX5_listed 53 = .ok (.iload_n 3, 1) := by decide +kernel
theorem dX5_listed_54 : decode cX5_listed 54 = .ok (.laload, 1) := by decide +kernel
theorem dX5_listed_55 : decode cX5_listed 55 = .ok (.l2i, 1) := by decide +kernel
theorem dX5_listed_56 : decode cX5_listed 56 = .ok (.istore_n 3, 1) := by decide +kernel
theorem dX5_listed_57 : decode cX5_listed 57 = .ok (.iinc 4 1, 3) := by decide +kernel
theorem dX5_listed_60 : decode cX5_listed 60 = .ok (.goto (-21), 3) := by decide +kernel
theorem dX5_listed_63 : decode cX5_listed 63 = .ok (.iload_n 3, 1) := by decide +kernel
theorem dX5_listed_64 : decode cX5_listed 64 = .ok (.ifCond .ne 7, 3) := by decide +kernel
theorem dX5_listed_67 : decode cX5_listed 67 = .ok (.iconst (-1), 1) := by decide +kernel
theorem dX5_listed_68 : decode cX5_listed 68 = .ok (.goto 4, 3) := by decide +kernel
theorem dX5_listed_71 : decode cX5_listed 71 = .ok (.iload_n 3, 1) := by decide +kernel
theorem dX5_listed_72 : decode cX5_listed 72 = .ok (.ireturn, 1) := by decide +kernel
theorem dX5_bitsIn_0 : decode cX5_bitsIn 0 = .ok (.iconst 0, 1) := by decide +kernel
theorem dX5_bitsIn_1 : decode cX5_bitsIn 1 = .ok (.istore_n 2, 1) := by decide +kernel
theorem dX5_bitsIn_2 : decode cX5_bitsIn 2 = .ok (.iconst 0, 1) := by decide +kernel
theorem dX5_bitsIn_3 : decode cX5_bitsIn 3 = .ok (.istore_n 3, 1) := by decide +kernel
theorem dX5_bitsIn_4 : decode cX5_bitsIn 4 = .ok (.iload_n 3, 1) := by decide +kernel
theorem dX5_bitsIn_5 : decode cX5_bitsIn 5 = .ok (.bipush 8, 2) := by decide +kernel
theorem dX5_bitsIn_7 : decode cX5_bitsIn 7 = .ok (.if_icmp .ge 33, 3) := by decide +kernel
theorem dX5_bitsIn_10 : decode cX5_bitsIn 10 = .ok (.iload_n 2, 1) := by decide +kernel
theorem dX5_bitsIn_11 : decode cX5_bitsIn 11 = .ok (.aload_n 0, 1) := by decide +kernel
theorem dX5_bitsIn_12 : decode cX5_bitsIn 12 = .ok (.getfield 13, 3) := by decide +kernel
theorem dX5_bitsIn_15 : decode cX5_bitsIn 15 = .ok (.bipush 8, 2) := by decide +kernel
theorem dX5_bitsIn_17 : decode cX5_bitsIn 17 = .ok (.iload_n 1, 1) := by decide +kernel
theorem dX5_bitsIn_18 : decode cX5_bitsIn 18 = .ok (.imul, 1) := by decide +kernel
theorem dX5_bitsIn_19 : decode cX5_bitsIn 19 = .ok (.iload_n 3, 1) := by decide +kernel
theorem dX5_bitsIn_20 : decode cX5_bitsIn 20 = .ok (.iadd, 1) := by decide +kernel
theorem dX5_bitsIn_21 : decode cX5_bitsIn 21 = .ok (.iaload, 1) := by decide +kernel
theorem dX5_bitsIn_22 : decode cX5_bitsIn 22 = .ok (.ifCond .eq 9, 3) := by decide +kernel
theorem dX5_bitsIn_25 : decode cX5_bitsIn 25 = .ok (.iconst 1, 1) := by decide +kernel
theorem dX5_bitsIn_26 : decode cX5_bitsIn 26 = .ok (.iload_n 3, 1) := by decide +kernel
theorem dX5_bitsIn_27 : decode cX5_bitsIn 27 = .ok (.ishl, 1) := by decide +kernel
theorem dX5_bitsIn_28 : decode cX5_bitsIn 28 = .ok (.goto 4, 3) := by decide +kernel
theorem dX5_bitsIn_31 : decode cX5_bitsIn 31 = .ok (.iconst 0, 1) := by decide +kernel
theorem dX5_bitsIn_32 : decode cX5_bitsIn 32 = .ok (.ior, 1) := by decide +kernel
theorem dX5_bitsIn_33 : decode cX5_bitsIn 33 = .ok (.istore_n 2, 1) := by decide +kernel
theorem dX5_bitsIn_34 : decode cX5_bitsIn 34 = .ok (.iinc 3 1, 3) := by decide +kernel
theorem dX5_bitsIn_37 : decode cX5_bitsIn 37 = .ok (.goto (-33), 3) := by decide +kernel
theorem dX5_bitsIn_40 : decode cX5_bitsIn 40 = .ok (.iload_n 2, 1) := by decide +kernel
theorem dX5_bitsIn_41 : decode cX5_bitsIn 41 = .ok (.ireturn, 1) := by decide +kernel
theorem dX5_bits_0 : decode cX5_bits 0 = .ok (.iload_n 1, 1) := by decide +kernel
theorem dX5_bits_1 : decode cX5_bits 1 = .ok (.i2l, 1) := by decide +kernel
theorem dX5_bits_2 : decode cX5_bits 2 = .ok (.lconst 0, 1) := by decide +kernel
theorem dX5_bits_3 : decode cX5_bits 3 = .ok (.ldc2_w 130, 3) := by decide +kernel
theorem dX5_bits_6 : decode cX5_bits 6 = .ok (.invokestatic 53, 3) := by decide +kernel
theorem dX5_bits_9 : decode cX5_bits 9 = .ok (.ifCond .ne 6, 3) := by decide +kernel
theorem dX5_bits_12 : decode cX5_bits 12 = .ok (.bipush (-2), 2) := by decide +kernel
theorem dX5_bits_14 : decode cX5_bits 14 = .ok (.ireturn, 1) := by decide +kernel
theorem dX5_bits_15 : decode cX5_bits 15 = .ok (.iload_n 1, 1) := by decide +kernel
theorem dX5_bits_16 : decode cX5_bits 16 = .ok (.bipush 9, 2) := by decide +kernel
theorem dX5_bits_18 : decode cX5_bits 18 = .ok (.if_icmp .ge 9, 3) := by decide +kernel
theorem dX5_bits_21 : decode cX5_bits 21 = .ok (.aload_n 0, 1) := by decide +kernel
theorem dX5_bits_22 : decode cX5_bits 22 = .ok (.iload_n 1, 1) := by decide +kernel
theorem dX5_bits_23 : decode cX5_bits 23 = .ok (.invokevirtual 132, 3) := by decide +kernel
theorem dX5_bits_26 : decode cX5_bits 26 = .ok (.ireturn, 1) := by decide +kernel
theorem dX5_bits_27 : decode cX5_bits 27 = .ok (.iconst 0, 1) := by decide +kernel
theorem dX5_bits_28 : decode cX5_bits 28 = .ok (.istore_n 2, 1) := by decide +kernel
theorem dX5_bits_29 : decode cX5_bits 29 = .ok (.iconst 0, 1) := by decide +kernel
theorem dX5_bits_30 : decode cX5_bits 30 = .ok (.istore_n 3, 1) := by decide +kernel
theorem dX5_bits_31 : decode cX5_bits 31 = .ok (.iload_n 3, 1) := by decide +kernel
theorem dX5_bits_32 : decode cX5_bits 32 = .ok (.bipush 9, 2) := by decide +kernel
theorem dX5_bits_34 : decode cX5_bits 34 = .ok (.if_icmp .ge 27, 3) := by decide +kernel
theorem dX5_bits_37 : decode cX5_bits 37 = .ok (.iload_n 2, 1) := by decide +kernel
theorem dX5_bits_38 : decode cX5_bits 38 = .ok (.aload_n 0, 1) := by decide +kernel
theorem dX5_bits_39 : decode cX5_bits 39 = .ok (.iload_n 3, 1) := by decide +kernel
theorem dX5_bits_40 : decode cX5_bits 40 = .ok (.invokevirtual 132, 3) := by decide +kernel
theorem dX5_bits_43 : decode cX5_bits 43 = .ok (.ifCond .eq 9, 3) := by decide +kernel
theorem dX5_bits_46 : decode cX5_bits 46 = .ok (.iconst 1, 1) := by decide +kernel
theorem dX5_bits_47 : decode cX5_bits 47 = .ok (.iload_n 3, 1) := by decide +kernel
theorem dX5_bits_48 : decode cX5_bits 48 = .ok (.ishl, 1) := by decide +kernel
theorem dX5_bits_49 : decode cX5_bits 49 = .ok (.goto 4, 3) := by decide +kernel
theorem dX5_bits_52 : decode cX5_bits 52 = .ok (.iconst 0, 1) := by decide +kernel
theorem dX5_bits_53 : decode cX5_bits 53 = .ok (.ior, 1) := by decide +kernel
theorem dX5_bits_54 : decode cX5_bits 54 = .ok (.istore_n 2, 1) := by decide +kernel
theorem dX5_bits_55 : decode cX5_bits 55 = .ok (.iinc 3 1, 3) := by decide +kernel
theorem dX5_bits_58 : decode cX5_bits 58 = .ok (.goto (-27), 3) := by decide +kernel
theorem dX5_bits_61 : decode cX5_bits 61 = .ok (.iload_n 2, 1) := by decide +kernel
theorem dX5_bits_62 : decode cX5_bits 62 = .ok (.ireturn, 1) := by decide +kernel
theorem dX5_block_0 : decode cX5_block 0 = .ok (.iload_n 2, 1) := by decide +kernel
theorem dX5_block_1 : decode cX5_block 1 = .ok (.i2l, 1) := by decide +kernel
theorem dX5_block_2 : decode cX5_block 2 = .ok (.lconst 0, 1) := by decide +kernel
theorem dX5_block_3 : decode cX5_block 3 = .ok (.ldc2_w 69, 3) := by decide +kernel
theorem dX5_block_6 : decode cX5_block 6 = .ok (.invokestatic 53, 3) := by decide +kernel
theorem dX5_block_9 : decode cX5_block 9 = .ok (.ifCond .eq 7, 3) := by decide +kernel
theorem dX5_block_12 : decode cX5_block 12 = .ok (.iload_n 1, 1) := by decide +kernel
theorem dX5_block_13 : decode cX5_block 13 = .ok (.ifCond .ge 6, 3) := by decide +kernel
theorem dX5_block_16 : decode cX5_block 16 = .ok (.bipush (-2), 2) := by decide +kernel
theorem dX5_block_18 : decode cX5_block 18 = .ok (.ireturn, 1) := by decide +kernel
theorem dX5_block_19 : decode cX5_block 19 = .ok (.aload_n 0, 1) := by decide +kernel
theorem dX5_block_20 : decode cX5_block 20 = .ok (.getfield 35, 3) := by decide +kernel
theorem dX5_block_23 : decode cX5_block 23 = .ok (.ifCond .eq 6, 3) := by decide +kernel
theorem dX5_block_26 : decode cX5_block 26 = .ok (.bipush (-3), 2) := by decide +kernel
theorem dX5_block_28 : decode cX5_block 28 = .ok (.ireturn, 1) := by decide +kernel
theorem dX5_block_29 : decode cX5_block 29 = .ok (.iconst 1, 1) := by decide +kernel
theorem dX5_block_30 : decode cX5_block 30 = .ok (.istore_n 3, 1) := by decide +kernel
theorem dX5_block_31 : decode cX5_block 31 = .ok (.iconst 0, 1) := by decide +kernel
theorem dX5_block_32 : decode cX5_block 32 = .ok (.istore 4, 2) := by decide +kernel
theorem dX5_block_34 : decode cX5_block 34 = .ok (.iload 4, 2) := by decide +kernel
theorem dX5_block_36 : decode cX5_block 36 = .ok (.iload_n 1, 1) := by decide +kernel
theorem dX5_block_37 : decode cX5_block 37 = .ok (.if_icmp .ge 19, 3) := by decide +kernel
theorem dX5_block_40 : decode cX5_block 40 = .ok (.iload_n 3, 1) := by decide +kernel
theorem dX5_block_41 : decode cX5_block 41 = .ok (.ifCond .le 15, 3) := by decide +kernel
theorem dX5_block_44 : decode cX5_block 44 = .ok (.aload_n 0, 1) := by decide +kernel
theorem dX5_block_45 : decode cX5_block 45 = .ok (.iload_n 3, 1) := by decide +kernel
theorem dX5_block_46 : decode cX5_block 46 = .ok (.invokevirtual 75, 3) := by decide +kernel
theorem dX5_block_49 : decode cX5_block 49 = .ok (.istore_n 3, 1) := by decide +kernel
theorem dX5_block_50 : decode cX5_block 50 = .ok (.iinc 4 1, 3) := by decide +kernel
theorem dX5_block_53 : decode cX5_block 53 = .ok (.goto (-19), 3) := by decide +kernel
theorem dX5_block_56 : decode cX5_block 56 = .ok (.iload_n 3, 1) := by decide +kernel
theorem dX5_block_57 : decode cX5_block 57 = .ok (.ifCond .ne 7, 3) := by decide +kernel
theorem dX5_block_60 : decode cX5_block 60 = .ok (.iconst (-1), 1) := by decide +kernel
theorem dX5_block_61 : decode cX5_block 61 = .ok (.goto 37, 3) := by decide +kernel
theorem dX5_block_64 : decode cX5_block 64 = .ok (.iload_n 2, 1) := by decide +kernel
theorem dX5_block_65 : decode cX5_block 65 = .ok (.ifCond .ne 7, 3) := by decide +kernel
theorem dX5_block_68 : decode cX5_block 68 = .ok (.iload_n 3, 1) := by decide +kernel
theorem dX5_block_69 : decode cX5_block 69 = .ok (.goto 29, 3) := by decide +kernel
theorem dX5_block_72 : decode cX5_block 72 = .ok (.iload_n 2, 1) := by decide +kernel
theorem dX5_block_73 : decode cX5_block 73 = .ok (.iconst 1, 1) := by decide +kernel
theorem dX5_block_74 : decode cX5_block 74 = .ok (.if_icmp .ne 11, 3) := by decide +kernel
theorem dX5_block_77 : decode cX5_block 77 = .ok (.aload_n 0, 1) := by decide +kernel
theorem dX5_block_78 : decode cX5_block 78 = .ok (.iload_n 3, 1) := by decide +kernel
theorem dX5_block_79 : decode cX5_block 79 = .ok (.invokevirtual 66, 3) := by decide +kernel
theorem dX5_block_82 : decode cX5_block 82 = .ok (.goto 16, 3) := by decide +kernel
theorem dX5_block_85 : decode cX5_block 85 = .ok (.aload_n 0, 1) := by decide +kernel
theorem dX5_block_86 : decode cX5_block 86 = .ok (.iload_n 3, 1) := by decide +kernel
theorem dX5_block_87 : decode cX5_block 87 = .ok (.invokevirtual 82, 3) := by decide +kernel
theorem dX5_block_90 : decode cX5_block 90 = .ok (.ifCond .eq 7, 3) := by decide +kernel
theorem dX5_block_93 : decode cX5_block 93 = .ok (.iconst 1, 1) := by decide +kernel
theorem dX5_block_94 : decode cX5_block 94 = .ok (.goto 4, 3) := by decide +kernel
theorem dX5_block_97 : decode cX5_block 97 = .ok (.iconst 0, 1) := by decide +kernel
theorem dX5_block_98 : decode cX5_block 98 = .ok (.ireturn, 1) := by decide +kernel
theorem dX5_found_0 : decode cX5_found 0 = .ok (.iload_n 1, 1) := by decide +kernel
theorem dX5_found_1 : decode cX5_found 1 = .ok (.i2l, 1) := by decide +kernel
theorem dX5_found_2 : decode cX5_found 2 = .ok (.lconst 1, 1) := by decide +kernel
theorem dX5_found_3 : decode cX5_found 3 = .ok (.ldc2_w 51, 3) := by decide +kernel
theorem dX5_found_6 : decode cX5_found 6 = .ok (.invokestatic 53, 3) := by decide +kernel
theorem dX5_found_9 : decode cX5_found 9 = .ok (.ifCond .ne 6, 3) := by decide +kernel
theorem dX5_found_12 : decode cX5_found 12 = .ok (.bipush (-2), 2) := by decide +kernel
theorem dX5_found_14 : decode cX5_found 14 = .ok (.ireturn, 1) := by decide +kernel
theorem dX5_found_15 : decode cX5_found 15 = .ok (.aload_n 0, 1) := by decide +kernel
theorem dX5_found_16 : decode cX5_found 16 = .ok (.getfield 35, 3) := by decide +kernel
theorem dX5_found_19 : decode cX5_found 19 = .ok (.ifCond .eq 6, 3) := by decide +kernel
theorem dX5_found_22 : decode cX5_found 22 = .ok (.bipush (-3), 2) := by decide +kernel
theorem dX5_found_24 : decode cX5_found 24 = .ok (.ireturn, 1) := by decide +kernel
theorem dX5_found_25 : decode cX5_found 25 = .ok (.aload_n 0, 1) := by decide +kernel
theorem dX5_found_26 : decode cX5_found 26 = .ok (.iload_n 1, 1) := by decide +kernel
theorem dX5_found_27 : decode cX5_found 27 = .ok (.invokevirtual 86, 3) := by decide +kernel
theorem dX5_found_30 : decode cX5_found 30 = .ok (.istore_n 2, 1) := by decide +kernel
theorem dX5_found_31 : decode cX5_found 31 = .ok (.iload_n 2, 1) := by decide +kernel
theorem dX5_found_32 : decode cX5_found 32 = .ok (.ifCond .ne 7, 3) := by decide +kernel
theorem dX5_found_35 : decode cX5_found 35 = .ok (.iconst (-1), 1) := by decide +kernel
theorem dX5_found_36 : decode cX5_found 36 = .ok (.goto 4, 3) := by decide +kernel
theorem dX5_found_39 : decode cX5_found 39 = .ok (.iload_n 2, 1) := by decide +kernel
theorem dX5_found_40 : decode cX5_found 40 = .ok (.ireturn, 1) := by decide +kernel
theorem dX5_counted_0 : decode cX5_counted 0 = .ok (.iconst 0, 1) := by decide +kernel
theorem dX5_counted_1 : decode cX5_counted 1 = .ok (.istore_n 2, 1) := by decide +kernel
theorem dX5_counted_2 : decode cX5_counted 2 = .ok (.iconst 1, 1) := by decide +kernel
theorem dX5_counted_3 : decode cX5_counted 3 = .ok (.istore_n 3, 1) := by decide +kernel
theorem dX5_counted_4 : decode cX5_counted 4 = .ok (.iload_n 3, 1) := by decide +kernel
theorem dX5_counted_5 : decode cX5_counted 5 = .ok (.ifCond .le 88, 3) := by decide +kernel
theorem dX5_counted_8 : decode cX5_counted 8 = .ok (.aload_n 0, 1) := by decide +kernel
theorem dX5_counted_9 : decode cX5_counted 9 = .ok (.iload_n 3, 1) := by decide +kernel
theorem dX5_counted_10 : decode cX5_counted 10 = .ok (.invokevirtual 66, 3) := by decide +kernel
theorem dX5_counted_13 : decode cX5_counted 13 = .ok (.istore 4, 2) := by decide +kernel
theorem dX5_counted_15 : decode cX5_counted 15 = .ok (.iload_n 1, 1) := by decide +kernel
theorem dX5_counted_16 : decode cX5_counted 16 = .ok (.bipush 8, 2) := by decide +kernel
theorem dX5_counted_18 : decode cX5_counted 18 = .ok (.if_icmp .ne 27, 3) := by decide +kernel
theorem dX5_counted_21 : decode cX5_counted 21 = .ok (.aload_n 0, 1) := by decide +kernel
theorem dX5_counted_22 : decode cX5_counted 22 = .ok (.iload_n 3, 1) := by decide +kernel
theorem dX5_counted_23 : decode cX5_counted 23 = .ok (.invokevirtual 82, 3) := by decide +kernel
theorem dX5_counted_26 : decode cX5_counted 26 = .ok (.ifCond .eq 14, 3) := by decide +kernel
theorem dX5_counted_29 : decode cX5_counted 29 = .ok (.iload 4, 2) := by decide +kernel
theorem dX5_counted_31 : decode cX5_counted 31 = .ok (.iload_n 2, 1) := by decide +kernel
theorem dX5_counted_32 : decode cX5_counted 32 = .ok (.if_icmp .le 8, 3) := by decide +kernel
theorem dX5_counted_35 : decode cX5_counted 35 = .ok (.iload 4, 2) := by decide +kernel
theorem dX5_counted_37 : decode cX5_counted 37 = .ok (.goto 4, 3) := by decide +kernel
theorem dX5_counted_40 : decode cX5_counted 40 = .ok (.iload_n 2, 1) := by decide +kernel
theorem dX5_counted_41 : decode cX5_counted 41 = .ok (.istore_n 2, 1) := by decide +kernel
theorem dX5_counted_42 : decode cX5_counted 42 = .ok (.goto 42, 3) := by decide +kernel
theorem dX5_counted_45 : decode cX5_counted 45 = .ok (.aload_n 0, 1) := by decide +kernel
theorem dX5_counted_46 : decode cX5_counted 46 = .ok (.iload_n 3, 1) := by decide +kernel
theorem dX5_counted_47 : decode cX5_counted 47 = .ok (.invokevirtual 82, 3) := by decide +kernel
theorem dX5_counted_50 : decode cX5_counted 50 = .ok (.iload_n 1, 1) := by decide +kernel
theorem dX5_counted_51 : decode cX5_counted 51 = .ok (.iconst 5, 1) := by decide +kernel
theorem dX5_counted_52 : decode cX5_counted 52 = .ok (.if_icmp .eq 9, 3) := by decide +kernel
theorem dX5_counted_55 : decode cX5_counted 55 = .ok (.iload_n 1, 1) := by decide +kernel
theorem dX5_counted_56 : decode cX5_counted 56 = .ok (.bipush 7, 2) := by decide +kernel
theorem dX5_counted_58 : decode cX5_counted 58 = .ok (.if_icmp .ne 7, 3) := by decide +kernel
theorem dX5_counted_61 : decode cX5_counted 61 = .ok (.iconst 1, 1) := by decide +kernel
theorem dX5_counted_62 : decode cX5_counted 62 = .ok (.goto 4, 3) := by decide +kernel
theorem dX5_counted_65 : decode cX5_counted 65 = .ok (.iconst 0, 1) := by decide +kernel
theorem dX5_counted_66 : decode cX5_counted 66 = .ok (.if_icmp .ne 18, 3) := by decide +kernel
theorem dX5_counted_69 : decode cX5_counted 69 = .ok (.iload_n 2, 1) := by decide +kernel
theorem dX5_counted_70 : decode cX5_counted 70 = .ok (.iload_n 1, 1) := by decide +kernel
theorem dX5_counted_71 : decode cX5_counted 71 = .ok (.bipush 6, 2) := by decide +kernel
theorem dX5_counted_73 : decode cX5_counted 73 = .ok (.if_icmp .ge 8, 3) := by decide +kernel
theorem dX5_counted_76 : decode cX5_counted 76 = .ok (.iload 4, 2) := by decide +kernel
theorem dX5_counted_78 : decode cX5_counted 78 = .ok (.goto 4, 3) := by decide +kernel
theorem dX5_counted_81 : decode cX5_counted 81 = .ok (.iconst 1, 1) := by decide +kernel
theorem dX5_counted_82 : decode cX5_counted 82 = .ok (.iadd, 1) := by decide +kernel
theorem dX5_counted_83 : decode cX5_counted 83 = .ok (.istore_n 2, 1) := by decide +kernel
theorem dX5_counted_84 : decode cX5_counted 84 = .ok (.aload_n 0, 1) := by decide +kernel
theorem dX5_counted_85 : decode cX5_counted 85 = .ok (.iload_n 3, 1) := by decide +kernel
theorem dX5_counted_86 : decode cX5_counted 86 = .ok (.invokevirtual 75, 3) := by decide +kernel
theorem dX5_counted_89 : decode cX5_counted 89 = .ok (.istore_n 3, 1) := by decide +kernel
theorem dX5_counted_90 : decode cX5_counted 90 = .ok (.goto (-86), 3) := by decide +kernel
theorem dX5_counted_93 : decode cX5_counted 93 = .ok (.iload_n 2, 1) := by decide +kernel
theorem dX5_counted_94 : decode cX5_counted 94 = .ok (.ireturn, 1) := by decide +kernel
theorem dX5_count_0 : decode cX5_count 0 = .ok (.iload_n 1, 1) := by decide +kernel
theorem dX5_count_1 : decode cX5_count 1 = .ok (.i2l, 1) := by decide +kernel
theorem dX5_count_2 : decode cX5_count 2 = .ok (.lconst 0, 1) := by decide +kernel
theorem dX5_count_3 : decode cX5_count 3 = .ok (.ldc2_w 135, 3) := by decide +kernel
theorem dX5_count_6 : decode cX5_count 6 = .ok (.invokestatic 53, 3) := by decide +kernel
theorem dX5_count_9 : decode cX5_count 9 = .ok (.ifCond .ne 6, 3) := by decide +kernel
theorem dX5_count_12 : decode cX5_count 12 = .ok (.bipush (-2), 2) := by decide +kernel
theorem dX5_count_14 : decode cX5_count 14 = .ok (.ireturn, 1) := by decide +kernel
theorem dX5_count_15 : decode cX5_count 15 = .ok (.iload_n 1, 1) := by decide +kernel
theorem dX5_count_16 : decode cX5_count 16 = .ok (.iconst 4, 1) := by decide +kernel
theorem dX5_count_17 : decode cX5_count 17 = .ok (.if_icmp .ge 51, 3) := by decide +kernel
theorem dX5_count_20 : decode cX5_count 20 = .ok (.iload_n 1, 1) := by decide +kernel
theorem dX5_count_21 : decode cX5_count 21 = .ok (.ifCond .ne 10, 3) := by decide +kernel
theorem dX5_count_24 : decode cX5_count 24 = .ok (.aload_n 0, 1) := by decide +kernel
theorem dX5_count_25 : decode cX5_count 25 = .ok (.getfield 32, 3) := by decide +kernel
theorem dX5_count_28 : decode cX5_count 28 = .ok (.goto 39, 3) := by decide +kernel
theorem dX5_count_31 : decode cX5_count 31 = .ok (.iload_n 1, 1) := by decide +kernel
theorem dX5_count_32 : decode cX5_count 32 = .ok (.iconst 1, 1) := by decide +kernel
theorem dX5_count_33 : decode cX5_count 33 = .ok (.if_icmp .ne 10, 3) := by decide +kernel
theorem dX5_count_36 : decode cX5_count 36 = .ok (.aload_n 0, 1) := by decide +kernel
theorem dX5_count_37 : decode cX5_count 37 = .ok (.getfield 46, 3) := by decide +kernel
theorem dX5_count_40 : decode cX5_count 40 = .ok (.goto 27, 3) := by decide +kernel
theorem dX5_count_43 : decode cX5_count 43 = .ok (.iload_n 1, 1) := by decide +kernel
theorem dX5_count_44 : decode cX5_count 44 = .ok (.iconst 2, 1) := by decide +kernel
theorem dX5_count_45 : decode cX5_count 45 = .ok (.if_icmp .ne 18, 3) := by decide +kernel
theorem dX5_count_48 : decode cX5_count 48 = .ok (.aload_n 0, 1) := by decide +kernel
theorem dX5_count_49 : decode cX5_count 49 = .ok (.getfield 35, 3) := by decide +kernel
theorem dX5_count_52 : decode cX5_count 52 = .ok (.ifCond .eq 7, 3) := by decide +kernel
theorem dX5_count_55 : decode cX5_count 55 = .ok (.iconst 1, 1) := by decide +kernel
theorem dX5_count_56 : decode cX5_count 56 = .ok (.goto 11, 3) := by decide +kernel
theorem dX5_count_59 : decode cX5_count 59 = .ok (.iconst 0, 1) := by decide +kernel
theorem dX5_count_60 : decode cX5_count 60 = .ok (.goto 7, 3) := by decide +kernel
theorem dX5_count_63 : decode cX5_count 63 = .ok (.aload_n 0, 1) := by decide +kernel
theorem dX5_count_64 : decode cX5_count 64 = .ok (.getfield 39, 3) := by decide +kernel
theorem dX5_count_67 : decode cX5_count 67 = .ok (.ireturn, 1) := by decide +kernel
theorem dX5_count_68 : decode cX5_count 68 = .ok (.aload_n 0, 1) := by decide +kernel
theorem dX5_count_69 : decode cX5_count 69 = .ok (.getfield 35, 3) := by decide +kernel
theorem dX5_count_72 : decode cX5_count 72 = .ok (.ifCond .eq 8, 3) := by decide +kernel
theorem dX5_count_75 : decode cX5_count 75 = .ok (.bipush (-3), 2) := by decide +kernel
theorem dX5_count_77 : decode cX5_count 77 = .ok (.goto 8, 3) := by decide +kernel
theorem dX5_count_80 : decode cX5_count 80 = .ok (.aload_n 0, 1) := by decide +kernel
theorem dX5_count_81 : decode cX5_count 81 = .ok (.iload_n 1, 1) := by decide +kernel
theorem dX5_count_82 : decode cX5_count 82 = .ok (.invokevirtual 137, 3) := by decide +kernel
theorem dX5_count_85 : decode cX5_count 85 = .ok (.ireturn, 1) := by decide +kernel
end
section
theorem dL_law_0 : decode cL_law 0 = .ok (.new 7, 3) := by decide +kernel
theorem dL_law_3 : decode cL_law 3 = .ok (.dup, 1) := by decide +kernel
theorem dL_law_4 : decode cL_law 4 = .ok (.invokespecial 9, 3) := by decide +kernel
theorem dL_law_7 : decode cL_law 7 = .ok (.astore_n 1, 1) := by decide +kernel
theorem dL_law_8 : decode cL_law 8 = .ok (.new 10, 3) := by decide +kernel
theorem dL_law_11 : decode cL_law 11 = .ok (.dup, 1) := by decide +kernel
theorem dL_law_12 : decode cL_law 12 = .ok (.invokespecial 12, 3) := by decide +kernel
theorem dL_law_15 : decode cL_law 15 = .ok (.astore_n 2, 1) := by decide +kernel
theorem dL_law_16 : decode cL_law 16 = .ok (.iconst 0, 1) := by decide +kernel
theorem dL_law_17 : decode cL_law 17 = .ok (.istore_n 3, 1) := by decide +kernel
theorem dL_law_18 : decode cL_law 18 = .ok (.iload_n 3, 1) := by decide +kernel
theorem dL_law_19 : decode cL_law 19 = .ok (.aload_n 0, 1) := by decide +kernel
theorem dL_law_20 : decode cL_law 20 = .ok (.arraylength, 1) := by decide +kernel
theorem dL_law_21 : decode cL_law 21 = .ok (.iconst 5, 1) := by decide +kernel
theorem dL_law_22 : decode cL_law 22 = .ok (.isub, 1) := by decide +kernel
theorem dL_law_23 : decode cL_law 23 = .ok (.if_icmp .gt 654, 3) := by decide +kernel
theorem dL_law_26 : decode cL_law 26 = .ok (.aload_n 0, 1) := by decide +kernel
theorem dL_law_27 : decode cL_law 27 = .ok (.iload_n 3, 1) := by decide +kernel
theorem dL_law_28 : decode cL_law 28 = .ok (.iaload, 1) := by decide +kernel
theorem dL_law_29 : decode cL_law 29 = .ok (.bipush 31, 2) := by decide +kernel
theorem dL_law_31 : decode cL_law 31 = .ok (.iand, 1) := by decide +kernel
theorem dL_law_32 : decode cL_law 32 = .ok (.tableswitch 639 0 17 #[88, 111, 134, 167, 190, 223, 246, 269, 342, 366, 429, 442, 455, 504, 537, 560, 593, 616], 88) := by decide +kernel
theorem dL_law_120 : decode cL_law 120 = .ok (.aload_n 1, 1) := by decide +kernel
theorem dL_law_121 : decode cL_law 121 = .ok (.aload_n 0, 1) := by decide +kernel
theorem dL_law_122 : decode cL_law 122 = .ok (.iload_n 3, 1) := by decide +kernel
theorem dL_law_123 : decode cL_law 123 = .ok (.iconst 1, 1) := by decide +kernel
theorem dL_law_124 : decode cL_law 124 = .ok (.iadd, 1) := by decide +kernel
theorem dL_law_125 : decode cL_law 125 = .ok (.iaload, 1) := by decide +kernel
theorem dL_law_126 : decode cL_law 126 = .ok (.invokevirtual 13, 3) := by decide +kernel
theorem dL_law_129 : decode cL_law 129 = .ok (.aload_n 2, 1) := by decide +kernel
theorem dL_law_130 : decode cL_law 130 = .ok (.aload_n 0, 1) := by decide +kernel
theorem dL_law_131 : decode cL_law 131 = .ok (.iload_n 3, 1) := by decide +kernel
theorem dL_law_132 : decode cL_law 132 = .ok (.iconst 1, 1) := by decide +kernel
theorem dL_law_133 : decode cL_law 133 = .ok (.iadd, 1) := by decide +kernel
theorem dL_law_134 : decode cL_law 134 = .ok (.iaload, 1) := by decide +kernel
theorem dL_law_135 : decode cL_law 135 = .ok (.invokevirtual 17, 3) := by decide +kernel
theorem dL_law_138 : decode cL_law 138 = .ok (.if_icmp .eq 533, 3) := by decide +kernel
theorem dL_law_141 : decode cL_law 141 = .ok (.iconst 0, 1) := by decide +kernel
theorem dL_law_142 : decode cL_law 142 = .ok (.ireturn, 1) := by decide +kernel
theorem dL_law_143 : decode cL_law 143 = .ok (.aload_n 1, 1) := by decide +kernel
theorem dL_law_144 : decode cL_law 144 = .ok (.aload_n 0, 1) := by decide +kernel
theorem dL_law_145 : decode cL_law 145 = .ok (.iload_n 3, 1) := by decide +kernel
theorem dL_law_146 : decode cL_law 146 = .ok (.iconst 1, 1) := by decide +kernel
theorem dL_law_147 : decode cL_law 147 = .ok (.iadd, 1) := by decide +kernel
theorem dL_law_148 : decode cL_law 148 = .ok (.iaload, 1) := by decide +kernel
theorem dL_law_149 : decode cL_law 149 = .ok (.invokevirtual 18, 3) := by decide +kernel
theorem dL_law_152 : decode cL_law 152 = .ok (.aload_n 2, 1) := by decide +kernel
theorem dL_law_153 : decode cL_law 153 = .ok (.aload_n 0, 1) := by decide +kernel
theorem dL_law_154 : decode cL_law 154 = .ok (.iload_n 3, 1) := by decide +kernel
theorem dL_law_155 : decode cL_law 155 = .ok (.iconst 1, 1) := by decide +kernel
theorem dL_law_156 : decode cL_law 156 = .ok (.iadd, 1) := by decide +kernel
theorem dL_law_157 : decode cL_law 157 = .ok (.iaload, 1) := by decide +kernel
theorem dL_law_158 : decode cL_law 158 = .ok (.invokevirtual 21, 3) := by decide +kernel
theorem dL_law_161 : decode cL_law 161 = .ok (.if_icmp .eq 510, 3) := by decide +kernel
theorem dL_law_164 : decode cL_law 164 = .ok (.iconst 0, 1) := by decide +kernel
theorem dL_law_165 : decode cL_law 165 = .ok (.ireturn, 1) := by decide +kernel
theorem dL_law_166 : decode cL_law 166 = .ok (.aload_n 1, 1) := by decide +kernel
theorem dL_law_167 : decode cL_law 167 = .ok (.aload_n 0, 1) := by decide +kernel
theorem dL_law_168 : decode cL_law 168 = .ok (.iload_n 3, 1) := by decide +kernel
theorem dL_law_169 : decode cL_law 169 = .ok (.iconst 1, 1) := by decide +kernel
theorem dL_law_170 : decode cL_law 170 = .ok (.iadd, 1) := by decide +kernel
theorem dL_law_171 : decode cL_law 171 = .ok (.iaload, 1) := by decide +kernel
theorem dL_law_172 : decode cL_law 172 = .ok (.aload_n 0, 1) := by decide +kernel
theorem dL_law_173 : decode cL_law 173 = .ok (.iload_n 3, 1) := by decide +kernel
theorem dL_law_174 : decode cL_law 174 = .ok (.iconst 2, 1) := by decide +kernel
theorem dL_law_175 : decode cL_law 175 = .ok (.iadd, 1) := by decide +kernel
theorem dL_law_176 : decode cL_law 176 = .ok (.iaload, 1) := by decide +kernel
theorem dL_law_177 : decode cL_law 177 = .ok (.invokevirtual 22, 3) := by decide +kernel
theorem dL_law_180 : decode cL_law 180 = .ok (.aload_n 2, 1) := by decide +kernel
theorem dL_law_181 : decode cL_law 181 = .ok (.aload_n 0, 1) := by decide +kernel
theorem dL_law_182 : decode cL_law 182 = .ok (.iload_n 3, 1) := by decide +kernel
theorem dL_law_183 : decode cL_law 183 = .ok (.iconst 1, 1) := by decide +kernel
theorem dL_law_184 : decode cL_law 184 = .ok (.iadd, 1) := by decide +kernel
theorem dL_law_185 : decode cL_law 185 = .ok (.iaload, 1) := by decide +kernel
theorem dL_law_186 : decode cL_law 186 = .ok (.aload_n 0, 1) := by decide +kernel
theorem dL_law_187 : decode cL_law 187 = .ok (.iload_n 3, 1) := by decide +kernel
theorem dL_law_188 : decode cL_law 188 = .ok (.iconst 2, 1) := by decide +kernel
theorem dL_law_189 : decode cL_law 189 = .ok (.iadd, 1) := by decide +kernel
theorem dL_law_190 : decode cL_law 190 = .ok (.iaload, 1) := by decide +kernel
theorem dL_law_191 : decode cL_law 191 = .ok (.invokevirtual 26, 3) := by decide +kernel
theorem dL_law_194 : decode cL_law 194 = .ok (.if_icmp .eq 477, 3) := by decide +kernel
theorem dL_law_197 : decode cL_law 197 = .ok (.iconst 0, 1) := by decide +kernel
theorem dL_law_198 : decode cL_law 198 = .ok (.ireturn, 1) := by decide +kernel
theorem dL_law_199 : decode cL_law 199 = .ok (.aload_n 1, 1) := by decide +kernel
theorem dL_law_200 : decode cL_law 200 = .ok (.aload_n 0, 1) := by decide +kernel
theorem dL_law_201 : decode cL_law 201 = .ok (.iload_n 3, 1) := by decide +kernel
theorem dL_law_202 : decode cL_law 202 = .ok (.iconst 1, 1) := by decide +kernel
theorem dL_law_203 : decode cL_law 203 = .ok (.iadd, 1) := by decide +kernel
theorem dL_law_204 : decode cL_law 204 = .ok (.iaload, 1) := by decide +kernel
theorem dL_law_205 : decode cL_law 205 = .ok (.invokevirtual 27, 3) := by decide +kernel
theorem dL_law_208 : decode cL_law 208 = .ok (.aload_n 2, 1) := by decide +kernel
theorem dL_law_209 : decode cL_law 209 = .ok (.aload_n 0, 1) := by decide +kernel
theorem dL_law_210 : decode cL_law 210 = .ok (.iload_n 3, 1) := by decide +kernel
theorem dL_law_211 : decode cL_law 211 = .ok (.iconst 1, 1) := by decide +kernel
theorem dL_law_212 : decode cL_law 212 = .ok (.iadd, 1) := by decide +kernel
theorem dL_law_213 : decode cL_law 213 = .ok (.iaload, 1) := by decide +kernel
theorem dL_law_214 : decode cL_law 214 = .ok (.invokevirtual 30, 3) := by decide +kernel
theorem dL_law_217 : decode cL_law 217 = .ok (.if_icmp .eq 454, 3) := by decide +kernel
theorem dL_law_220 : decode cL_law 220 = .ok (.iconst 0, 1) := by decide +kernel
theorem dL_law_221 : decode cL_law 221 = .ok (.ireturn, 1) := by decide +kernel
theorem dL_law_222 : decode cL_law 222 = .ok (.aload_n 1, 1) := by decide +kernel
theorem dL_law_223 : decode cL_law 223 = .ok (.aload_n 0, 1) := by decide +kernel
theorem dL_law_224 : decode cL_law 224 = .ok (.iload_n 3, 1) := by decide +kernel
theorem dL_law_225 : decode cL_law 225 = .ok (.iconst 1, 1) := by decide +kernel
theorem dL_law_226 : decode cL_law 226 = .ok (.iadd, 1) := by decide +kernel
theorem dL_law_227 : decode cL_law 227 = .ok (.iaload, 1) := by decide +kernel
theorem dL_law_228 : decode cL_law 228 = .ok (.aload_n 0, 1) := by decide +kernel
theorem dL_law_229 : decode cL_law 229 = .ok (.iload_n 3, 1) := by decide +kernel
theorem dL_law_230 : decode cL_law 230 = .ok (.iconst 2, 1) := by decide +kernel
theorem dL_law_231 : decode cL_law 231 = .ok (.iadd, 1) := by decide +kernel
theorem dL_law_232 : decode cL_law 232 = .ok (.iaload, 1) := by decide +kernel
theorem dL_law_233 : decode cL_law 233 = .ok (.invokevirtual 31, 3) := by decide +kernel
theorem dL_law_236 : decode cL_law 236 = .ok (.aload_n 2, 1) := by decide +kernel
theorem dL_law_237 : decode cL_law 237 = .ok (.aload_n 0, 1) := by decide +kernel
theorem dL_law_238 : decode cL_law 238 = .ok (.iload_n 3, 1) := by decide +kernel
theorem dL_law_239 : decode cL_law 239 = .ok (.iconst 1, 1) := by decide +kernel
theorem dL_law_240 : decode cL_law 240 = .ok (.iadd, 1) := by decide +kernel
theorem dL_law_241 : decode cL_law 241 = .ok (.iaload, 1) := by decide +kernel
theorem dL_law_242 : decode cL_law 242 = .ok (.aload_n 0, 1) := by decide +kernel
theorem dL_law_243 : decode cL_law 243 = .ok (.iload_n 3, 1) := by decide +kernel
theorem dL_law_244 : decode cL_law 244 = .ok (.iconst 2, 1) := by decide +kernel
theorem dL_law_245 : decode cL_law 245 = .ok (.iadd, 1) := by decide +kernel
theorem dL_law_246 : decode cL_law 246 = .ok (.iaload, 1) := by decide +kernel
theorem dL_law_247 : decode cL_law 247 = .ok (.invokevirtual 34, 3) := by decide +kernel
theorem dL_law_250 : decode cL_law 250 = .ok (.if_icmp .eq 421, 3) := by decide +kernel
theorem dL_law_253 : decode cL_law 253 = .ok (.iconst 0, 1) := by decide +kernel
theorem dL_law_254 : decode cL_law 254 = .ok (.ireturn, 1) := by decide +kernel
theorem dL_law_255 : decode cL_law 255 = .ok (.aload_n 1, 1) := by decide +kernel
theorem dL_law_256 : decode cL_law 256 = .ok (.aload_n 0, 1) := by decide +kernel
theorem dL_law_257 : decode cL_law 257 = .ok (.iload_n 3, 1) := by decide +kernel
theorem dL_law_258 : decode cL_law 258 = .ok (.iconst 1, 1) := by decide +kernel
theorem dL_law_259 : decode cL_law 259 = .ok (.iadd, 1) := by decide +kernel
theorem dL_law_260 : decode cL_law 260 = .ok (.iaload, 1) := by decide +kernel
theorem dL_law_261 : decode cL_law 261 = .ok (.invokevirtual 35, 3) := by decide +kernel
theorem dL_law_264 : decode cL_law 264 = .ok (.aload_n 2, 1) := by decide +kernel
theorem dL_law_265 : decode cL_law 265 = .ok (.aload_n 0, 1) := by decide +kernel
theorem dL_law_266 : decode cL_law 266 = .ok (.iload_n 3, 1) := by decide +kernel
theorem dL_law_267 : decode cL_law 267 = .ok (.iconst 1, 1) := by decide +kernel
theorem dL_law_268 : decode cL_law 268 = .ok (.iadd, 1) := by decide +kernel
theorem dL_law_269 : decode cL_law 269 = .ok (.iaload, 1) := by decide +kernel
theorem dL_law_270 : decode cL_law 270 = .ok (.invokevirtual 38, 3) := by decide +kernel
theorem dL_law_273 : decode cL_law 273 = .ok (.if_icmp .eq 398, 3) := by decide +kernel
theorem dL_law_276 : decode cL_law 276 = .ok (.iconst 0, 1) := by decide +kernel
theorem dL_law_277 : decode cL_law 277 = .ok (.ireturn, 1) := by decide +kernel
theorem dL_law_278 : decode cL_law 278 = .ok (.aload_n 1, 1) := by decide +kernel
theorem dL_law_279 : decode cL_law 279 = .ok (.aload_n 0, 1) := by decide +kernel
theorem dL_law_280 : decode cL_law 280 = .ok (.iload_n 3, 1) := by decide +kernel
theorem dL_law_281 : decode cL_law 281 = .ok (.iconst 1, 1) := by decide +kernel
theorem dL_law_282 : decode cL_law 282 = .ok (.iadd, 1) := by decide +kernel
theorem dL_law_283 : decode cL_law 283 = .ok (.iaload, 1) := by decide +kernel
theorem dL_law_284 : decode cL_law 284 = .ok (.invokevirtual 39, 3) := by decide +kernel
theorem dL_law_287 : decode cL_law 287 = .ok (.aload_n 2, 1) := by decide +kernel
theorem dL_law_288 : decode cL_law 288 = .ok (.aload_n 0, 1) := by decide +kernel
theorem dL_law_289 : decode cL_law 289 = .ok (.iload_n 3, 1) := by decide +kernel
theorem dL_law_290 : decode cL_law 290 = .ok (.iconst 1, 1) := by decide +kernel
theorem dL_law_291 : decode cL_law 291 = .ok (.iadd, 1) := by decide +kernel
theorem dL_law_292 : decode cL_law 292 = .ok (.iaload, 1) := by decide +kernel
theorem dL_law_293 : decode cL_law 293 = .ok (.invokevirtual 42, 3) := by decide +kernel
theorem dL_law_296 : decode cL_law 296 = .ok (.if_icmp .eq 375, 3) := by decide +kernel
theorem dL_law_299 : decode cL_law 299 = .ok (.iconst 0, 1) := by decide +kernel
theorem dL_law_300 : decode cL_law 300 = .ok (.ireturn, 1) := by decide +kernel
theorem dL_law_301 : decode cL_law 301 = .ok (.aload_n 1, 1) := by decide +kernel
theorem dL_law_302 : decode cL_law 302 = .ok (.aload_n 0, 1) := by decide +kernel
theorem dL_law_303 : decode cL_law 303 = .ok (.iload_n 3, 1) := by decide +kernel
theorem dL_law_304 : decode cL_law 304 = .ok (.iconst 1, 1) := by decide +kernel
theorem dL_law_305 : decode cL_law 305 = .ok (.iadd, 1) := by decide +kernel
theorem dL_law_306 : decode cL_law 306 = .ok (.iaload, 1) := by decide +kernel
theorem dL_law_307 : decode cL_law 307 = .ok (.aload_n 0, 1) := by decide +kernel
theorem dL_law_308 : decode cL_law 308 = .ok (.iload_n 3, 1) := by decide +kernel
theorem dL_law_309 : decode cL_law 309 = .ok (.iconst 2, 1) := by decide +kernel
theorem dL_law_310 : decode cL_law 310 = .ok (.iadd, 1) := by decide +kernel
theorem dL_law_311 : decode cL_law 311 = .ok (.iaload, 1) := by decide +kernel
theorem dL_law_312 : decode cL_law 312 = .ok (.aload_n 0, 1) := by decide +kernel
theorem dL_law_313 : decode cL_law 313 = .ok (.iload_n 3, 1) := by decide +kernel
theorem dL_law_314 : decode cL_law 314 = .ok (.iconst 3, 1) := by decide +kernel
theorem dL_law_315 : decode cL_law 315 = .ok (.iadd, 1) := by decide +kernel
theorem dL_law_316 : decode cL_law 316 = .ok (.iaload, 1) := by decide +kernel
theorem dL_law_317 : decode cL_law 317 = .ok (.i2l, 1) := by decide +kernel
theorem dL_law_318 : decode cL_law 318 = .ok (.bipush 32, 2) := by decide +kernel
theorem dL_law_320 : decode cL_law 320 = .ok (.lshl, 1) := by decide +kernel
theorem dL_law_321 : decode cL_law 321 = .ok (.aload_n 0, 1) := by decide +kernel
theorem dL_law_322 : decode cL_law 322 = .ok (.iload_n 3, 1) := by decide +kernel
theorem dL_law_323 : decode cL_law 323 = .ok (.iconst 4, 1) := by decide +kernel
theorem dL_law_324 : decode cL_law 324 = .ok (.iadd, 1) := by decide +kernel
theorem dL_law_325 : decode cL_law 325 = .ok (.iaload, 1) := by decide +kernel
theorem dL_law_326 : decode cL_law 326 = .ok (.i2l, 1) := by decide +kernel
theorem dL_law_327 : decode cL_law 327 = .ok (.ldc2_w 43, 3) := by decide +kernel
theorem dL_law_330 : decode cL_law 330 = .ok (.land, 1) := by decide +kernel
theorem dL_law_331 : decode cL_law 331 = .ok (.lor, 1) := by decide +kernel
theorem dL_law_332 : decode cL_law 332 = .ok (.invokevirtual 45, 3) := by decide +kernel
theorem dL_law_335 : decode cL_law 335 = .ok (.aload_n 2, 1) := by decide +kernel
theorem dL_law_336 : decode cL_law 336 = .ok (.aload_n 0, 1) := by decide +kernel
theorem dL_law_337 : decode cL_law 337 = .ok (.iload_n 3, 1) := by decide +kernel
theorem dL_law_338 : decode cL_law 338 = .ok (.iconst 1, 1) := by decide +kernel
theorem dL_law_339 : decode cL_law 339 = .ok (.iadd, 1) := by decide +kernel
theorem dL_law_340 : decode cL_law 340 = .ok (.iaload, 1) := by decide +kernel
theorem dL_law_341 : decode cL_law 341 = .ok (.aload_n 0, 1) := by decide +kernel
theorem dL_law_342 : decode cL_law 342 = .ok (.iload_n 3, 1) := by decide +kernel
theorem dL_law_343 : decode cL_law 343 = .ok (.iconst 2, 1) := by decide +kernel
theorem dL_law_344 : decode cL_law 344 = .ok (.iadd, 1) := by decide +kernel
theorem dL_law_345 : decode cL_law 345 = .ok (.iaload, 1) := by decide +kernel
theorem dL_law_346 : decode cL_law 346 = .ok (.aload_n 0, 1) := by decide +kernel
theorem dL_law_347 : decode cL_law 347 = .ok (.iload_n 3, 1) := by decide +kernel
theorem dL_law_348 : decode cL_law 348 = .ok (.iconst 3, 1) := by decide +kernel
theorem dL_law_349 : decode cL_law 349 = .ok (.iadd, 1) := by decide +kernel
theorem dL_law_350 : decode cL_law 350 = .ok (.iaload, 1) := by decide +kernel
theorem dL_law_351 : decode cL_law 351 = .ok (.i2l, 1) := by decide +kernel
theorem dL_law_352 : decode cL_law 352 = .ok (.bipush 32, 2) := by decide +kernel
theorem dL_law_354 : decode cL_law 354 = .ok (.lshl, 1) := by decide +kernel
theorem dL_law_355 : decode cL_law 355 = .ok (.aload_n 0, 1) := by decide +kernel
theorem dL_law_356 : decode cL_law 356 = .ok (.iload_n 3, 1) := by decide +kernel
theorem dL_law_357 : decode cL_law 357 = .ok (.iconst 4, 1) := by decide +kernel
theorem dL_law_358 : decode cL_law 358 = .ok (.iadd, 1) := by decide +kernel
theorem dL_law_359 : decode cL_law 359 = .ok (.iaload, 1) := by decide +kernel
theorem dL_law_360 : decode cL_law 360 = .ok (.i2l, 1) := by decide +kernel
theorem dL_law_361 : decode cL_law 361 = .ok (.ldc2_w 43, 3) := by decide +kernel
theorem dL_law_364 : decode cL_law 364 = .ok (.land, 1) := by decide +kernel
theorem dL_law_365 : decode cL_law 365 = .ok (.lor, 1) := by decide +kernel
theorem dL_law_366 : decode cL_law 366 = .ok (.invokevirtual 49, 3) := by decide +kernel
theorem dL_law_369 : decode cL_law 369 = .ok (.if_icmp .eq 302, 3) := by decide +kernel
theorem dL_law_372 : decode cL_law 372 = .ok (.iconst 0, 1) := by decide +kernel
theorem dL_law_373 : decode cL_law 373 = .ok (.ireturn, 1) := by decide +kernel
theorem dL_law_374 : decode cL_law 374 = .ok (.aload_n 1, 1) := by decide +kernel
theorem dL_law_375 : decode cL_law 375 = .ok (.aload_n 0, 1) := by decide +kernel
theorem dL_law_376 : decode cL_law 376 = .ok (.iload_n 3, 1) := by decide +kernel
theorem dL_law_377 : decode cL_law 377 = .ok (.iconst 1, 1) := by decide +kernel
theorem dL_law_378 : decode cL_law 378 = .ok (.iadd, 1) := by decide +kernel
theorem dL_law_379 : decode cL_law 379 = .ok (.iaload, 1) := by decide +kernel
theorem dL_law_380 : decode cL_law 380 = .ok (.invokevirtual 50, 3) := by decide +kernel
theorem dL_law_383 : decode cL_law 383 = .ok (.aload_n 2, 1) := by decide +kernel
theorem dL_law_384 : decode cL_law 384 = .ok (.aload_n 0, 1) := by decide +kernel
theorem dL_law_385 : decode cL_law 385 = .ok (.iload_n 3, 1) := by decide +kernel
theorem dL_law_386 : decode cL_law 386 = .ok (.iconst 1, 1) := by decide +kernel
theorem dL_law_387 : decode cL_law 387 = .ok (.iadd, 1) := by decide +kernel
theorem dL_law_388 : decode cL_law 388 = .ok (.iaload, 1) := by decide +kernel
theorem dL_law_389 : decode cL_law 389 = .ok (.invokevirtual 54, 3) := by decide +kernel
theorem dL_law_392 : decode cL_law 392 = .ok (.lcmp, 1) := by decide +kernel
theorem dL_law_393 : decode cL_law 393 = .ok (.ifCond .eq 278, 3) := by decide +kernel
theorem dL_law_396 : decode cL_law 396 = .ok (.iconst 0, 1) := by decide +kernel
theorem dL_law_397 : decode cL_law 397 = .ok (.ireturn, 1) := by decide +kernel
theorem dL_law_398 : decode cL_law 398 = .ok (.aload_n 1, 1) := by decide +kernel
theorem dL_law_399 : decode cL_law 399 = .ok (.aload_n 0, 1) := by decide +kernel
theorem dL_law_400 : decode cL_law 400 = .ok (.iload_n 3, 1) := by decide +kernel
theorem dL_law_401 : decode cL_law 401 = .ok (.iconst 1, 1) := by decide +kernel
theorem dL_law_402 : decode cL_law 402 = .ok (.iadd, 1) := by decide +kernel
theorem dL_law_403 : decode cL_law 403 = .ok (.iaload, 1) := by decide +kernel
theorem dL_law_404 : decode cL_law 404 = .ok (.aload_n 0, 1) := by decide +kernel
theorem dL_law_405 : decode cL_law 405 = .ok (.iload_n 3, 1) := by decide +kernel
theorem dL_law_406 : decode cL_law 406 = .ok (.iconst 2, 1) := by decide +kernel
theorem dL_law_407 : decode cL_law 407 = .ok (.iadd, 1) := by decide +kernel
theorem dL_law_408 : decode cL_law 408 = .ok (.iaload, 1) := by decide +kernel
theorem dL_law_409 : decode cL_law 409 = .ok (.i2l, 1) := by decide +kernel
theorem dL_law_410 : decode cL_law 410 = .ok (.bipush 32, 2) := by decide +kernel
theorem dL_law_412 : decode cL_law 412 = .ok (.lshl, 1) := by decide +kernel
theorem dL_law_413 : decode cL_law 413 = .ok (.aload_n 0, 1) := by decide +kernel
theorem dL_law_414 : decode cL_law 414 = .ok (.iload_n 3, 1) := by decide +kernel
theorem dL_law_415 : decode cL_law 415 = .ok (.iconst 3, 1) := by decide +kernel
theorem dL_law_416 : decode cL_law 416 = .ok (.iadd, 1) := by decide +kernel
theorem dL_law_417 : decode cL_law 417 = .ok (.iaload, 1) := by decide +kernel
theorem dL_law_418 : decode cL_law 418 = .ok (.i2l, 1) := by decide +kernel
theorem dL_law_419 : decode cL_law 419 = .ok (.ldc2_w 43, 3) := by decide +kernel
theorem dL_law_422 : decode cL_law 422 = .ok (.land, 1) := by decide +kernel
theorem dL_law_423 : decode cL_law 423 = .ok (.lor, 1) := by decide +kernel
theorem dL_law_424 : decode cL_law 424 = .ok (.invokevirtual 55, 3) := by decide +kernel
theorem dL_law_427 : decode cL_law 427 = .ok (.aload_n 2, 1) := by decide +kernel
theorem dL_law_428 : decode cL_law 428 = .ok (.aload_n 0, 1) := by decide +kernel
theorem dL_law_429 : decode cL_law 429 = .ok (.iload_n 3, 1) := by decide +kernel
theorem dL_law_430 : decode cL_law 430 = .ok (.iconst 1, 1) := by decide +kernel
theorem dL_law_431 : decode cL_law 431 = .ok (.iadd, 1) := by decide +kernel
theorem dL_law_432 : decode cL_law 432 = .ok (.iaload, 1) := by decide +kernel
theorem dL_law_433 : decode cL_law 433 = .ok (.aload_n 0, 1) := by decide +kernel
theorem dL_law_434 : decode cL_law 434 = .ok (.iload_n 3, 1) := by decide +kernel
theorem dL_law_435 : decode cL_law 435 = .ok (.iconst 2, 1) := by decide +kernel
theorem dL_law_436 : decode cL_law 436 = .ok (.iadd, 1) := by decide +kernel
theorem dL_law_437 : decode cL_law 437 = .ok (.iaload, 1) := by decide +kernel
theorem dL_law_438 : decode cL_law 438 = .ok (.i2l, 1) := by decide +kernel
theorem dL_law_439 : decode cL_law 439 = .ok (.bipush 32, 2) := by decide +kernel
theorem dL_law_441 : decode cL_law 441 = .ok (.lshl, 1) := by decide +kernel
theorem dL_law_442 : decode cL_law 442 = .ok (.aload_n 0, 1) := by decide +kernel
theorem dL_law_443 : decode cL_law 443 = .ok (.iload_n 3, 1) := by decide +kernel
theorem dL_law_444 : decode cL_law 444 = .ok (.iconst 3, 1) := by decide +kernel
theorem dL_law_445 : decode cL_law 445 = .ok (.iadd, 1) := by decide +kernel
theorem dL_law_446 : decode cL_law 446 = .ok (.iaload, 1) := by decide +kernel
theorem dL_law_447 : decode cL_law 447 = .ok (.i2l, 1) := by decide +kernel
theorem dL_law_448 : decode cL_law 448 = .ok (.ldc2_w 43, 3) := by decide +kernel
theorem dL_law_451 : decode cL_law 451 = .ok (.land, 1) := by decide +kernel
theorem dL_law_452 : decode cL_law 452 = .ok (.lor, 1) := by decide +kernel
theorem dL_law_453 : decode cL_law 453 = .ok (.invokevirtual 59, 3) := by decide +kernel
theorem dL_law_456 : decode cL_law 456 = .ok (.if_icmp .eq 215, 3) := by decide +kernel
theorem dL_law_459 : decode cL_law 459 = .ok (.iconst 0, 1) := by decide +kernel
theorem dL_law_460 : decode cL_law 460 = .ok (.ireturn, 1) := by decide +kernel
theorem dL_law_461 : decode cL_law 461 = .ok (.aload_n 1, 1) := by decide +kernel
theorem dL_law_462 : decode cL_law 462 = .ok (.invokevirtual 60, 3) := by decide +kernel
theorem dL_law_465 : decode cL_law 465 = .ok (.aload_n 2, 1) := by decide +kernel
theorem dL_law_466 : decode cL_law 466 = .ok (.invokevirtual 64, 3) := by decide +kernel
theorem dL_law_469 : decode cL_law 469 = .ok (.if_icmp .eq 202, 3) := by decide +kernel
theorem dL_law_472 : decode cL_law 472 = .ok (.iconst 0, 1) := by decide +kernel
theorem dL_law_473 : decode cL_law 473 = .ok (.ireturn, 1) := by decide +kernel
theorem dL_law_474 : decode cL_law 474 = .ok (.aload_n 1, 1) := by decide +kernel
theorem dL_law_475 : decode cL_law 475 = .ok (.invokevirtual 65, 3) := by decide +kernel
theorem dL_law_478 : decode cL_law 478 = .ok (.aload_n 2, 1) := by decide +kernel
theorem dL_law_479 : decode cL_law 479 = .ok (.invokevirtual 68, 3) := by decide +kernel
theorem dL_law_482 : decode cL_law 482 = .ok (.if_icmp .eq 189, 3) := by decide +kernel
theorem dL_law_485 : decode cL_law 485 = .ok (.iconst 0, 1) := by decide +kernel
theorem dL_law_486 : decode cL_law 486 = .ok (.ireturn, 1) := by decide +kernel
theorem dL_law_487 : decode cL_law 487 = .ok (.aload_n 1, 1) := by decide +kernel
theorem dL_law_488 : decode cL_law 488 = .ok (.aload_n 0, 1) := by decide +kernel
theorem dL_law_489 : decode cL_law 489 = .ok (.iload_n 3, 1) := by decide +kernel
theorem dL_law_490 : decode cL_law 490 = .ok (.iconst 1, 1) := by decide +kernel
theorem dL_law_491 : decode cL_law 491 = .ok (.iadd, 1) := by decide +kernel
theorem dL_law_492 : decode cL_law 492 = .ok (.iaload, 1) := by decide +kernel
theorem dL_law_493 : decode cL_law 493 = .ok (.aload_n 0, 1) := by decide +kernel
theorem dL_law_494 : decode cL_law 494 = .ok (.iload_n 3, 1) := by decide +kernel
theorem dL_law_495 : decode cL_law 495 = .ok (.iconst 2, 1) := by decide +kernel
theorem dL_law_496 : decode cL_law 496 = .ok (.iadd, 1) := by decide +kernel
theorem dL_law_497 : decode cL_law 497 = .ok (.iaload, 1) := by decide +kernel
theorem dL_law_498 : decode cL_law 498 = .ok (.ifCond .eq 7, 3) := by decide +kernel
theorem dL_law_501 : decode cL_law 501 = .ok (.iconst 1, 1) := by decide +kernel
theorem dL_law_502 : decode cL_law 502 = .ok (.goto 4, 3) := by decide +kernel
theorem dL_law_505 : decode cL_law 505 = .ok (.iconst 0, 1) := by decide +kernel
theorem dL_law_506 : decode cL_law 506 = .ok (.invokevirtual 69, 3) := by decide +kernel
theorem dL_law_509 : decode cL_law 509 = .ok (.aload_n 2, 1) := by decide +kernel
theorem dL_law_510 : decode cL_law 510 = .ok (.aload_n 0, 1) := by decide +kernel
theorem dL_law_511 : decode cL_law 511 = .ok (.iload_n 3, 1) := by decide +kernel
theorem dL_law_512 : decode cL_law 512 = .ok (.iconst 1, 1) := by decide +kernel
theorem dL_law_513 : decode cL_law 513 = .ok (.iadd, 1) := by decide +kernel
theorem dL_law_514 : decode cL_law 514 = .ok (.iaload, 1) := by decide +kernel
theorem dL_law_515 : decode cL_law 515 = .ok (.aload_n 0, 1) := by decide +kernel
theorem dL_law_516 : decode cL_law 516 = .ok (.iload_n 3, 1) := by decide +kernel
theorem dL_law_517 : decode cL_law 517 = .ok (.iconst 2, 1) := by decide +kernel
theorem dL_law_518 : decode cL_law 518 = .ok (.iadd, 1) := by decide +kernel
theorem dL_law_519 : decode cL_law 519 = .ok (.iaload, 1) := by decide +kernel
theorem dL_law_520 : decode cL_law 520 = .ok (.ifCond .eq 7, 3) := by decide +kernel
theorem dL_law_523 : decode cL_law 523 = .ok (.iconst 1, 1) := by decide +kernel
theorem dL_law_524 : decode cL_law 524 = .ok (.goto 4, 3) := by decide +kernel
theorem dL_law_527 : decode cL_law 527 = .ok (.iconst 0, 1) := by decide +kernel
theorem dL_law_528 : decode cL_law 528 = .ok (.invokevirtual 73, 3) := by decide +kernel
theorem dL_law_531 : decode cL_law 531 = .ok (.if_icmp .eq 140, 3) := by decide +kernel
theorem dL_law_534 : decode cL_law 534 = .ok (.iconst 0, 1) := by decide +kernel
theorem dL_law_535 : decode cL_law 535 = .ok (.ireturn, 1) := by decide +kernel
theorem dL_law_536 : decode cL_law 536 = .ok (.aload_n 1, 1) := by decide +kernel
theorem dL_law_537 : decode cL_law 537 = .ok (.aload_n 0, 1) := by decide +kernel
theorem dL_law_538 : decode cL_law 538 = .ok (.iload_n 3, 1) := by decide +kernel
theorem dL_law_539 : decode cL_law 539 = .ok (.iconst 1, 1) := by decide +kernel
theorem dL_law_540 : decode cL_law 540 = .ok (.iadd, 1) := by decide +kernel
theorem dL_law_541 : decode cL_law 541 = .ok (.iaload, 1) := by decide +kernel
theorem dL_law_542 : decode cL_law 542 = .ok (.aload_n 0, 1) := by decide +kernel
theorem dL_law_543 : decode cL_law 543 = .ok (.iload_n 3, 1) := by decide +kernel
theorem dL_law_544 : decode cL_law 544 = .ok (.iconst 2, 1) := by decide +kernel
theorem dL_law_545 : decode cL_law 545 = .ok (.iadd, 1) := by decide +kernel
theorem dL_law_546 : decode cL_law 546 = .ok (.iaload, 1) := by decide +kernel
theorem dL_law_547 : decode cL_law 547 = .ok (.invokevirtual 74, 3) := by decide +kernel
theorem dL_law_550 : decode cL_law 550 = .ok (.aload_n 2, 1) := by decide +kernel
theorem dL_law_551 : decode cL_law 551 = .ok (.aload_n 0, 1) := by decide +kernel
theorem dL_law_552 : decode cL_law 552 = .ok (.iload_n 3, 1) := by decide +kernel
theorem dL_law_553 : decode cL_law 553 = .ok (.iconst 1, 1) := by decide +kernel
theorem dL_law_554 : decode cL_law 554 = .ok (.iadd, 1) := by decide +kernel
theorem dL_law_555 : decode cL_law 555 = .ok (.iaload, 1) := by decide +kernel
theorem dL_law_556 : decode cL_law 556 = .ok (.aload_n 0, 1) := by decide +kernel
theorem dL_law_557 : decode cL_law 557 = .ok (.iload_n 3, 1) := by decide +kernel
theorem dL_law_558 : decode cL_law 558 = .ok (.iconst 2, 1) := by decide +kernel
theorem dL_law_559 : decode cL_law 559 = .ok (.iadd, 1) := by decide +kernel
theorem dL_law_560 : decode cL_law 560 = .ok (.iaload, 1) := by decide +kernel
theorem dL_law_561 : decode cL_law 561 = .ok (.invokevirtual 77, 3) := by decide +kernel
theorem dL_law_564 : decode cL_law 564 = .ok (.if_icmp .eq 107, 3) := by decide +kernel
theorem dL_law_567 : decode cL_law 567 = .ok (.iconst 0, 1) := by decide +kernel
theorem dL_law_568 : decode cL_law 568 = .ok (.ireturn, 1) := by decide +kernel
theorem dL_law_569 : decode cL_law 569 = .ok (.aload_n 1, 1) := by decide +kernel
theorem dL_law_570 : decode cL_law 570 = .ok (.aload_n 0, 1) := by decide +kernel
theorem dL_law_571 : decode cL_law 571 = .ok (.iload_n 3, 1) := by decide +kernel
theorem dL_law_572 : decode cL_law 572 = .ok (.iconst 1, 1) := by decide +kernel
theorem dL_law_573 : decode cL_law 573 = .ok (.iadd, 1) := by decide +kernel
theorem dL_law_574 : decode cL_law 574 = .ok (.iaload, 1) := by decide +kernel
theorem dL_law_575 : decode cL_law 575 = .ok (.invokevirtual 78, 3) := by decide +kernel
theorem dL_law_578 : decode cL_law 578 = .ok (.aload_n 2, 1) := by decide +kernel
theorem dL_law_579 : decode cL_law 579 = .ok (.aload_n 0, 1) := by decide +kernel
theorem dL_law_580 : decode cL_law 580 = .ok (.iload_n 3, 1) := by decide +kernel
theorem dL_law_581 : decode cL_law 581 = .ok (.iconst 1, 1) := by decide +kernel
theorem dL_law_582 : decode cL_law 582 = .ok (.iadd, 1) := by decide +kernel
theorem dL_law_583 : decode cL_law 583 = .ok (.iaload, 1) := by decide +kernel
theorem dL_law_584 : decode cL_law 584 = .ok (.invokevirtual 81, 3) := by decide +kernel
theorem dL_law_587 : decode cL_law 587 = .ok (.if_icmp .eq 84, 3) := by decide +kernel
theorem dL_law_590 : decode cL_law 590 = .ok (.iconst 0, 1) := by decide +kernel
theorem dL_law_591 : decode cL_law 591 = .ok (.ireturn, 1) := by decide +kernel
theorem dL_law_592 : decode cL_law 592 = .ok (.aload_n 1, 1) := by decide +kernel
theorem dL_law_593 : decode cL_law 593 = .ok (.aload_n 0, 1) := by decide +kernel
theorem dL_law_594 : decode cL_law 594 = .ok (.iload_n 3, 1) := by decide +kernel
theorem dL_law_595 : decode cL_law 595 = .ok (.iconst 1, 1) := by decide +kernel
theorem dL_law_596 : decode cL_law 596 = .ok (.iadd, 1) := by decide +kernel
theorem dL_law_597 : decode cL_law 597 = .ok (.iaload, 1) := by decide +kernel
theorem dL_law_598 : decode cL_law 598 = .ok (.aload_n 0, 1) := by decide +kernel
theorem dL_law_599 : decode cL_law 599 = .ok (.iload_n 3, 1) := by decide +kernel
theorem dL_law_600 : decode cL_law 600 = .ok (.iconst 2, 1) := by decide +kernel
theorem dL_law_601 : decode cL_law 601 = .ok (.iadd, 1) := by decide +kernel
theorem dL_law_602 : decode cL_law 602 = .ok (.iaload, 1) := by decide +kernel
theorem dL_law_603 : decode cL_law 603 = .ok (.invokevirtual 82, 3) := by decide +kernel
theorem dL_law_606 : decode cL_law 606 = .ok (.aload_n 2, 1) := by decide +kernel
theorem dL_law_607 : decode cL_law 607 = .ok (.aload_n 0, 1) := by decide +kernel
theorem dL_law_608 : decode cL_law 608 = .ok (.iload_n 3, 1) := by decide +kernel
theorem dL_law_609 : decode cL_law 609 = .ok (.iconst 1, 1) := by decide +kernel
theorem dL_law_610 : decode cL_law 610 = .ok (.iadd, 1) := by decide +kernel
theorem dL_law_611 : decode cL_law 611 = .ok (.iaload, 1) := by decide +kernel
theorem dL_law_612 : decode cL_law 612 = .ok (.aload_n 0, 1) := by decide +kernel
theorem dL_law_613 : decode cL_law 613 = .ok (.iload_n 3, 1) := by decide +kernel
theorem dL_law_614 : decode cL_law 614 = .ok (.iconst 2, 1) := by decide +kernel
theorem dL_law_615 : decode cL_law 615 = .ok (.iadd, 1) := by decide +kernel
theorem dL_law_616 : decode cL_law 616 = .ok (.iaload, 1) := by decide +kernel
theorem dL_law_617 : decode cL_law 617 = .ok (.invokevirtual 85, 3) := by decide +kernel
theorem dL_law_620 : decode cL_law 620 = .ok (.if_icmp .eq 51, 3) := by decide +kernel
theorem dL_law_623 : decode cL_law 623 = .ok (.iconst 0, 1) := by decide +kernel
theorem dL_law_624 : decode cL_law 624 = .ok (.ireturn, 1) := by decide +kernel
theorem dL_law_625 : decode cL_law 625 = .ok (.aload_n 1, 1) := by decide +kernel
theorem dL_law_626 : decode cL_law 626 = .ok (.aload_n 0, 1) := by decide +kernel
theorem dL_law_627 : decode cL_law 627 = .ok (.iload_n 3, 1) := by decide +kernel
theorem dL_law_628 : decode cL_law 628 = .ok (.iconst 1, 1) := by decide +kernel
theorem dL_law_629 : decode cL_law 629 = .ok (.iadd, 1) := by decide +kernel
theorem dL_law_630 : decode cL_law 630 = .ok (.iaload, 1) := by decide +kernel
theorem dL_law_631 : decode cL_law 631 = .ok (.invokevirtual 86, 3) := by decide +kernel
theorem dL_law_634 : decode cL_law 634 = .ok (.aload_n 2, 1) := by decide +kernel
theorem dL_law_635 : decode cL_law 635 = .ok (.aload_n 0, 1) := by decide +kernel
theorem dL_law_636 : decode cL_law 636 = .ok (.iload_n 3, 1) := by decide +kernel
theorem dL_law_637 : decode cL_law 637 = .ok (.iconst 1, 1) := by decide +kernel
theorem dL_law_638 : decode cL_law 638 = .ok (.iadd, 1) := by decide +kernel
theorem dL_law_639 : decode cL_law 639 = .ok (.iaload, 1) := by decide +kernel
theorem dL_law_640 : decode cL_law 640 = .ok (.invokevirtual 89, 3) := by decide +kernel
theorem dL_law_643 : decode cL_law 643 = .ok (.if_icmp .eq 28, 3) := by decide +kernel
theorem dL_law_646 : decode cL_law 646 = .ok (.iconst 0, 1) := by decide +kernel
theorem dL_law_647 : decode cL_law 647 = .ok (.ireturn, 1) := by decide +kernel
theorem dL_law_648 : decode cL_law 648 = .ok (.aload_n 1, 1) := by decide +kernel
theorem dL_law_649 : decode cL_law 649 = .ok (.aload_n 0, 1) := by decide +kernel
theorem dL_law_650 : decode cL_law 650 = .ok (.iload_n 3, 1) := by decide +kernel
theorem dL_law_651 : decode cL_law 651 = .ok (.iconst 1, 1) := by decide +kernel
theorem dL_law_652 : decode cL_law 652 = .ok (.iadd, 1) := by decide +kernel
theorem dL_law_653 : decode cL_law 653 = .ok (.iaload, 1) := by decide +kernel
theorem dL_law_654 : decode cL_law 654 = .ok (.invokevirtual 90, 3) := by decide +kernel
theorem dL_law_657 : decode cL_law 657 = .ok (.aload_n 2, 1) := by decide +kernel
theorem dL_law_658 : decode cL_law 658 = .ok (.aload_n 0, 1) := by decide +kernel
theorem dL_law_659 : decode cL_law 659 = .ok (.iload_n 3, 1) := by decide +kernel
theorem dL_law_660 : decode cL_law 660 = .ok (.iconst 1, 1) := by decide +kernel
theorem dL_law_661 : decode cL_law 661 = .ok (.iadd, 1) := by decide +kernel
theorem dL_law_662 : decode cL_law 662 = .ok (.iaload, 1) := by decide +kernel
theorem dL_law_663 : decode cL_law 663 = .ok (.invokevirtual 93, 3) := by decide +kernel
theorem dL_law_666 : decode cL_law 666 = .ok (.if_icmp .eq 5, 3) := by decide +kernel
theorem dL_law_669 : decode cL_law 669 = .ok (.iconst 0, 1) := by decide +kernel
theorem dL_law_670 : decode cL_law 670 = .ok (.ireturn, 1) := by decide +kernel
theorem dL_law_671 : decode cL_law 671 = .ok (.iinc 3 5, 3) := by decide +kernel
theorem dL_law_674 : decode cL_law 674 = .ok (.goto (-656), 3) := by decide +kernel
theorem dL_law_677 : decode cL_law 677 = .ok (.iconst 1, 1) := by decide +kernel
theorem dL_law_678 : decode cL_law 678 = .ok (.ireturn, 1) := by decide +kernel
end
section
/-! ===== the base: one judgement for all walks of methods that make nothing ===== -/
/-- the words on nest mates, which a contract carries -/
def zN (U : State) : Prop :=
  va_Nw (.fieldLinkNest RX0 44 RX3 "end" "I" RX4) U ∧ va_Nw (.fieldLinkNest RX4 98 RX3 "end" "I" RX4) U ∧ va_Nw (.fieldLinkNest RX4 149 RX2 "moves" "I" RX4) U ∧ va_Nw (.fieldLinkNest RX4 126 RX0 "wrongAt" "I" RX4) U ∧ va_Nw (.methodLinkNest RX4 11 yX3_init RX4) U ∧ va_Nw (.methodLinkNest RX1 15 yX4_bodyFor RX4) U
theorem zN.warm {s U : State} (hW : s.WarmedH U.vm) (h : zN s) : zN U := ⟨va_Nw.warmF hW h.1, va_Nw.warmF hW h.2.1, va_Nw.warmF hW h.2.2.1, va_Nw.warmF hW h.2.2.2.1, va_Nw.warmM hW h.2.2.2.2.1, va_Nw.warmM hW h.2.2.2.2.2⟩
theorem zN.same {s U : State} (e : s.vm = U.vm) (h : zN s) : zN U := ⟨va_Nw.same rfl e h.1, va_Nw.same rfl e h.2.1, va_Nw.same rfl e h.2.2.1, va_Nw.same rfl e h.2.2.2.1, va_Nw.same rfl e h.2.2.2.2.1, va_Nw.same rfl e h.2.2.2.2.2⟩
abbrev zE : Type := Program × Launch × Env × Room × State × MethodId × Array Value × List Frame × Method × Code
abbrev zK : Type := va_G × ClassId × ClassId × ClassId
/-- the array classes: int, long, boolean -/
def zty (k : zK) : List (ClassId × FieldType) := [(k.2.1, .int), (k.2.2.1, .long), (k.2.2.2, .boolean)]
def zlet {α : Type} (v : α) (P : α → Prop) : Prop := P v
def zi {σ : Type} (P : σ → Int32 → Prop) : σ → Option Value → Prop := fun u r => ∃ v : Int32, r = some (.int v) ∧ P u v
def zl {σ : Type} (P : σ → Int64 → Prop) : σ → Option Value → Prop := fun u r => ∃ v : Int64, r = some (.long v) ∧ P u v
def zv {σ : Type} (P : σ → Prop) : σ → Option Value → Prop := fun u r => r = none ∧ P u
def zsi (P : Int32 → Prop) : Unit → Option Value → Prop := fun _ r => ∃ v : Int32, r = some (.int v) ∧ P v
def zw0 : Unit → va_W := fun _ => []
/-- what a contract's end says -/
def zQ {σ : Type} (κ : zK) (hs : List Nat) (ω : σ → va_W) (Φ : σ → Option Value → Prop) : Array Value → State → Outcome → State → Prop :=
  fun _ st oc t => (∃ (u : σ) (r : Option Value), oc = .returned r ∧ Φ u r ∧ va_P κ.1 vwCl (ω u) t.heap) ∧ va_F (fun q => q ∈ hs) st t
def zP (κ : zK) (As : List Value) (w : va_W) : Array Value → State → Prop := va_Pc As (fun U => va_P κ.1 vwCl w U.heap ∧ va_K κ.1 vwCl (zty κ) U ∧ zN U)
/-- a contract: called with As in the world ω u, the method returns, and Φ holds of the new world and the answer -/
def zM {σ : Type} (l : Launch) (κ : zK) (hs : List Nat) (ω : σ → va_W) (y : MethodName) (bytes : ByteArray) (maxL : Nat) (ret : Option FieldType) (rm : Room) (As : List Value) (u : σ) (Φ : σ → Option Value → Prop) : Prop :=
  Met l y (.code y bytes maxL ret :: zT) rm (zP κ As (ω u)) (zQ κ hs ω Φ) 0 0 (fun q => q ∈ hs)
/-- what is fixed in a walk -/
def zC {σ : Type} (g : zE) (κ : zK) (hs : List Nat) (ω : σ → va_W) (cc : ByteArray) (nL : Nat) (own : String) (ret : Option FieldType) (rm : Room) : Prop :=
  CallFix g.1 g.2.2.2.2.2.1 g.2.2.2.2.2.2.2.2.2 cc nL g.2.2.2.2.1 g.2.2.2.2.2.2.1 zT own ∧ g.2.2.2.2.2.2.2.2.1.sig.returnType = ret ∧ g.2.2.2.2.2.2.2.2.1.locks = false ∧ va_K κ.1 vwCl (zty κ) g.2.2.2.2.1 ∧ zN g.2.2.2.2.1 ∧ g.2.2.2.1 = rm ∧ ∀ u, va_D (fun q => q ∈ hs) (ω u)
def zJ {σ : Type} (g : zE) (κ : zK) (hs : List Nat) (ω : σ → va_W) (Φ : σ → Option Value → Prop) (nL : Nat) (u : σ) (lv : List (Nat × Value)) (pc : Nat) (st : List Value) : Prop :=
  ∀ (H : Heap) (locs : List Loc) (ls : Array Slot), va_P κ.1 vwCl (ω u) H → va_S (fun q => q ∈ hs) g.2.2.2.2.1.heap H locs → lv_has ls nL lv →
    W g.1 g.2.1 g.2.2.1 g.2.2.2.1 g.2.2.2.2.1 g.2.2.2.2.2.1 g.2.2.2.2.2.2.1 g.2.2.2.2.2.2.2.1 g.2.2.2.2.2.2.2.2.1 g.2.2.2.2.2.2.2.2.2 H locs 0 0
      (MQ g.2.2.2.2.2.2.2.1 (zQ κ hs ω Φ) g.2.2.2.2.2.2.1 g.2.2.2.2.1 0 0 (fun q => q ∈ hs)) (F0 g.2.2.2.2.2.1 pc ls st)
theorem zP_blind (κ : zK) (As : List Value) (w : va_W) : FrameBlind (zP κ As w) := fun a U g mk q => ⟨q.1, q.2.1, va_K.moved (u := U) (U := U.calling g mk a) (Vm.Alike.refl U.vm) q.2.2.1, zN.same rfl q.2.2.2⟩
theorem z_met {σ : Type} {l : Launch} {κ : zK} {hs : List Nat} {ω : σ → va_W} {y : MethodName} {bytes : ByteArray} {maxL : Nat} {ret : Option FieldType} {rm : Room} {As : List Value} {u : σ} {Φ : σ → Option Value → Prop} {own : String}
    (hy : plainName y.cls = true) (ho : y.cls = own) (hlen : (lg_sl As).length ≤ maxL) (hD : ∀ u, va_D (fun q => q ∈ hs) (ω u))
    (body : ∀ g : zE, zC g κ hs ω bytes maxL own ret rm → zJ g κ hs ω Φ maxL u (lv_args 0 As) 0 []) : zM l κ hs ω y bytes maxL ret rm As u Φ := by
  refine Met.ofW (cc := bytes) (maxL := maxL) (ret := ret) hy rfl ?_
  intro p e s m args below meth c s₁ B hml hv
  obtain ⟨rfl, hP, hK, hN⟩ := hv
  have hts := atoms_spec (ws := .code y bytes maxL ret :: zT) B.pre
  have hown : s.vm.findClass own = some m.cls := by rw [← ho]; exact findClass_of_methodNamed B.named
  have hl := lv_entry As hlen
  rw [lg_entry_eq]
  exact body (p, l, e, rm, s, m, As.toArray, below, meth, c) ⟨⟨B.exec, B.bytes, hml, hown, fun w hw => hts w (List.mem_cons_of_mem _ hw)⟩, B.returns, B.notSynchronized, hK, hN, rfl, hD⟩ s.heap [] _ hP va_S.rf hl
section ZI
variable {σ : Type} {g : zE} {κ : zK} {hs : List Nat} {ω : σ → va_W} {Φ : σ → Option Value → Prop} {cc : ByteArray} {nL : Nat} {own : String} {ret : Option FieldType} {rm : Room} {u : σ} {lv : List (Nat × Value)} {pc : Nat} {st : List Value}
theorem z_sub {lv' : List (Nat × Value)} (k : zJ g κ hs ω Φ nL u lv' pc st) (ks : List Nat) (h : lv_pick lv ks = lv') : zJ g κ hs ω Φ nL u lv pc st := fun H locs ls hP hS hl => k H locs ls hP hS (lv_sub hl ks h)
theorem z_iconst (X : zC g κ hs ω cc nL own ret rm) {n : Int} {v : Int32} (d : decode cc pc = .ok (.iconst n, 1)) (hv : Int32.ofInt n = v) (k : zJ g κ hs ω Φ nL u lv (pc + 1) (.int v :: st)) : zJ g κ hs ω Φ nL u lv pc st := fun H locs ls hP hS hl => lv_iconst X.1.1 X.1.2.1 d hv (k H locs ls hP hS hl)
theorem z_bipush (X : zC g κ hs ω cc nL own ret rm) {n : Int} {v : Int32} (d : decode cc pc = .ok (.bipush n, 2)) (hv : (Int8.ofInt n).toInt32 = v) (k : zJ g κ hs ω Φ nL u lv (pc + 2) (.int v :: st)) : zJ g κ hs ω Φ nL u lv pc st := fun H locs ls hP hS hl => lv_bipush X.1.1 X.1.2.1 d hv (k H locs ls hP hS hl)
theorem z_sipush (X : zC g κ hs ω cc nL own ret rm) {n : Int} {v : Int32} (d : decode cc pc = .ok (.sipush n, 3)) (hv : (Int16.ofInt n).toInt32 = v) (k : zJ g κ hs ω Φ nL u lv (pc + 3) (.int v :: st)) : zJ g κ hs ω Φ nL u lv pc st := fun H locs ls hP hS hl => lv_sipush X.1.1 X.1.2.1 d hv (k H locs ls hP hS hl)
theorem z_lconst (X : zC g κ hs ω cc nL own ret rm) {n : Fin 2} {v : Int64} (d : decode cc pc = .ok (.lconst n, 1)) (hv : Int64.ofNat (n : Nat) = v) (k : zJ g κ hs ω Φ nL u lv (pc + 1) (.long v :: st)) : zJ g κ hs ω Φ nL u lv pc st := fun H locs ls hP hS hl => lv_lconst X.1.1 X.1.2.1 d hv (k H locs ls hP hS hl)
theorem z_iload_n (X : zC g κ hs ω cc nL own ret rm) {k : Fin 4} {i : Nat} {x : Int32} (d : decode cc pc = .ok (.iload_n k, 1)) (j : Nat) (hi : (k : Nat) = i) (hj : lv[j]? = some (i, .int x)) (kk : zJ g κ hs ω Φ nL u lv (pc + 1) (.int x :: st)) : zJ g κ hs ω Φ nL u lv pc st := fun H locs ls hP hS hl => lv_iload_n X.1.1 X.1.2.1 d hi (lv_at hl j hj) (kk H locs ls hP hS hl)
theorem z_iload (X : zC g κ hs ω cc nL own ret rm) {i : Nat} {x : Int32} (d : decode cc pc = .ok (.iload i, 2)) (j : Nat) (hj : lv[j]? = some (i, .int x)) (kk : zJ g κ hs ω Φ nL u lv (pc + 2) (.int x :: st)) : zJ g κ hs ω Φ nL u lv pc st := fun H locs ls hP hS hl => lv_iload X.1.1 X.1.2.1 d (lv_at hl j hj) (kk H locs ls hP hS hl)
theorem z_istore_n (X : zC g κ hs ω cc nL own ret rm) {k : Fin 4} {i : Nat} {x : Int32} {lv' : List (Nat × Value)} (d : decode cc pc = .ok (.istore_n k, 1)) (hi : (k : Nat) = i) (hn : i < nL) (hl1 : (i, Value.int x) :: lv.filter (fun q => !(q.1 == i) && !(q.1 + 1 == i && q.2.category == 2)) = lv') (kk : zJ g κ hs ω Φ nL u lv' (pc + 1) st) : zJ g κ hs ω Φ nL u lv pc (.int x :: st) := fun H locs ls hP hS hl => lv_istore_n X.1.1 X.1.2.1 d hi hl hn hl1 (fun ls1 hl1 => kk H locs ls1 hP hS hl1)
theorem z_istore (X : zC g κ hs ω cc nL own ret rm) {i : Nat} {x : Int32} {lv' : List (Nat × Value)} (d : decode cc pc = .ok (.istore i, 2)) (hn : i < nL) (hl1 : (i, Value.int x) :: lv.filter (fun q => !(q.1 == i) && !(q.1 + 1 == i && q.2.category == 2)) = lv') (kk : zJ g κ hs ω Φ nL u lv' (pc + 2) st) : zJ g κ hs ω Φ nL u lv pc (.int x :: st) := fun H locs ls hP hS hl => lv_istore X.1.1 X.1.2.1 d hl hn hl1 (fun ls1 hl1 => kk H locs ls1 hP hS hl1)
theorem z_lload_n (X : zC g κ hs ω cc nL own ret rm) {k : Fin 4} {i : Nat} {x : Int64} (d : decode cc pc = .ok (.lload_n k, 1)) (j : Nat) (hi : (k : Nat) = i) (hj : lv[j]? = some (i, .long x)) (kk : zJ g κ hs ω Φ nL u lv (pc + 1) (.long x :: st)) : zJ g κ hs ω Φ nL u lv pc st := fun H locs ls hP hS hl => lv_lload_n X.1.1 X.1.2.1 d hi (lv_at hl j hj) (kk H locs ls hP hS hl)
theorem z_lload (X : zC g κ hs ω cc nL own ret rm) {i : Nat} {x : Int64} (d : decode cc pc = .ok (.lload i, 2)) (j : Nat) (hj : lv[j]? = some (i, .long x)) (kk : zJ g κ hs ω Φ nL u lv (pc + 2) (.long x :: st)) : zJ g κ hs ω Φ nL u lv pc st := fun H locs ls hP hS hl => lv_lload X.1.1 X.1.2.1 d (lv_at hl j hj) (kk H locs ls hP hS hl)
theorem z_lstore_n (X : zC g κ hs ω cc nL own ret rm) {k : Fin 4} {i : Nat} {x : Int64} {lv' : List (Nat × Value)} (d : decode cc pc = .ok (.lstore_n k, 1)) (hi : (k : Nat) = i) (hn : i + 1 < nL) (hl1 : (i, Value.long x) :: lv.filter (fun q => !(q.1 == i) && (!(q.1 == i + 1) && !(q.1 + 1 == i && q.2.category == 2))) = lv') (kk : zJ g κ hs ω Φ nL u lv' (pc + 1) st) : zJ g κ hs ω Φ nL u lv pc (.long x :: st) := fun H locs ls hP hS hl => lv_lstore_n X.1.1 X.1.2.1 d hi hl hn hl1 (fun ls1 hl1 => kk H locs ls1 hP hS hl1)
theorem z_lstore (X : zC g κ hs ω cc nL own ret rm) {i : Nat} {x : Int64} {lv' : List (Nat × Value)} (d : decode cc pc = .ok (.lstore i, 2)) (hn : i + 1 < nL) (hl1 : (i, Value.long x) :: lv.filter (fun q => !(q.1 == i) && (!(q.1 == i + 1) && !(q.1 + 1 == i && q.2.category == 2))) = lv') (kk : zJ g κ hs ω Φ nL u lv' (pc + 2) st) : zJ g κ hs ω Φ nL u lv pc (.long x :: st) := fun H locs ls hP hS hl => lv_lstore X.1.1 X.1.2.1 d hl hn hl1 (fun ls1 hl1 => kk H locs ls1 hP hS hl1)
theorem z_aload_n (X : zC g κ hs ω cc nL own ret rm) {k : Fin 4} {i : Nat} {x : Nat} (d : decode cc pc = .ok (.aload_n k, 1)) (j : Nat) (hi : (k : Nat) = i) (hj : lv[j]? = some (i, .ref x)) (kk : zJ g κ hs ω Φ nL u lv (pc + 1) (.ref x :: st)) : zJ g κ hs ω Φ nL u lv pc st := fun H locs ls hP hS hl => lv_aload_n X.1.1 X.1.2.1 d hi (lv_at hl j hj) (kk H locs ls hP hS hl)
theorem z_aload (X : zC g κ hs ω cc nL own ret rm) {i : Nat} {x : Nat} (d : decode cc pc = .ok (.aload i, 2)) (j : Nat) (hj : lv[j]? = some (i, .ref x)) (kk : zJ g κ hs ω Φ nL u lv (pc + 2) (.ref x :: st)) : zJ g κ hs ω Φ nL u lv pc st := fun H locs ls hP hS hl => lv_aload X.1.1 X.1.2.1 d (lv_at hl j hj) (kk H locs ls hP hS hl)
theorem z_astore_n (X : zC g κ hs ω cc nL own ret rm) {k : Fin 4} {i : Nat} {x : Nat} {lv' : List (Nat × Value)} (d : decode cc pc = .ok (.astore_n k, 1)) (hi : (k : Nat) = i) (hn : i < nL) (hl1 : (i, Value.ref x) :: lv.filter (fun q => !(q.1 == i) && !(q.1 + 1 == i && q.2.category == 2)) = lv') (kk : zJ g κ hs ω Φ nL u lv' (pc + 1) st) : zJ g κ hs ω Φ nL u lv pc (.ref x :: st) := fun H locs ls hP hS hl => lv_astore_n X.1.1 X.1.2.1 d hi hl hn hl1 (fun ls1 hl1 => kk H locs ls1 hP hS hl1)
theorem z_astore (X : zC g κ hs ω cc nL own ret rm) {i : Nat} {x : Nat} {lv' : List (Nat × Value)} (d : decode cc pc = .ok (.astore i, 2)) (hn : i < nL) (hl1 : (i, Value.ref x) :: lv.filter (fun q => !(q.1 == i) && !(q.1 + 1 == i && q.2.category == 2)) = lv') (kk : zJ g κ hs ω Φ nL u lv' (pc + 2) st) : zJ g κ hs ω Φ nL u lv pc (.ref x :: st) := fun H locs ls hP hS hl => lv_astore X.1.1 X.1.2.1 d hl hn hl1 (fun ls1 hl1 => kk H locs ls1 hP hS hl1)
theorem z_iinc (X : zC g κ hs ω cc nL own ret rm) {i k : Nat} {n : Int} {x v : Int32} {lv' : List (Nat × Value)} (d : decode cc pc = .ok (.iinc i n, 3)) (hk : lv[k]? = some (i, .int x)) (hv : x + Int32.ofInt n = v) (hn : i < nL) (hl1 : (i, Value.int v) :: lv.filter (fun q => !(q.1 == i) && !(q.1 + 1 == i && q.2.category == 2)) = lv') (kk : zJ g κ hs ω Φ nL u lv' (pc + 3) st) : zJ g κ hs ω Φ nL u lv pc st := fun H locs ls hP hS hl => lv_iinc X.1.1 X.1.2.1 d hl hk hv hn hl1 (fun ls1 hl1 => kk H locs ls1 hP hS hl1)
theorem z_iadd (X : zC g κ hs ω cc nL own ret rm) {x y : Int32} (d : decode cc pc = .ok (.iadd, 1)) (k : zJ g κ hs ω Φ nL u lv (pc + 1) (.int (x + y) :: st)) : zJ g κ hs ω Φ nL u lv pc (.int y :: .int x :: st) := fun H locs ls hP hS hl => lv_iadd X.1.1 X.1.2.1 d (k H locs ls hP hS hl)
theorem z_isub (X : zC g κ hs ω cc nL own ret rm) {x y : Int32} (d : decode cc pc = .ok (.isub, 1)) (k : zJ g κ hs ω Φ nL u lv (pc + 1) (.int (x - y) :: st)) : zJ g κ hs ω Φ nL u lv pc (.int y :: .int x :: st) := fun H locs ls hP hS hl => lv_isub X.1.1 X.1.2.1 d (k H locs ls hP hS hl)
theorem z_imul (X : zC g κ hs ω cc nL own ret rm) {x y : Int32} (d : decode cc pc = .ok (.imul, 1)) (k : zJ g κ hs ω Φ nL u lv (pc + 1) (.int (x * y) :: st)) : zJ g κ hs ω Φ nL u lv pc (.int y :: .int x :: st) := fun H locs ls hP hS hl => lv_imul X.1.1 X.1.2.1 d (k H locs ls hP hS hl)
theorem z_iand (X : zC g κ hs ω cc nL own ret rm) {x y : Int32} (d : decode cc pc = .ok (.iand, 1)) (k : zJ g κ hs ω Φ nL u lv (pc + 1) (.int (x &&& y) :: st)) : zJ g κ hs ω Φ nL u lv pc (.int y :: .int x :: st) := fun H locs ls hP hS hl => lv_iand X.1.1 X.1.2.1 d (k H locs ls hP hS hl)
theorem z_ior (X : zC g κ hs ω cc nL own ret rm) {x y : Int32} (d : decode cc pc = .ok (.ior, 1)) (k : zJ g κ hs ω Φ nL u lv (pc + 1) (.int (x ||| y) :: st)) : zJ g κ hs ω Φ nL u lv pc (.int y :: .int x :: st) := fun H locs ls hP hS hl => lv_ior X.1.1 X.1.2.1 d (k H locs ls hP hS hl)
theorem z_ixor (X : zC g κ hs ω cc nL own ret rm) {x y : Int32} (d : decode cc pc = .ok (.ixor, 1)) (k : zJ g κ hs ω Φ nL u lv (pc + 1) (.int (x ^^^ y) :: st)) : zJ g κ hs ω Φ nL u lv pc (.int y :: .int x :: st) := fun H locs ls hP hS hl => lv_ixor X.1.1 X.1.2.1 d (k H locs ls hP hS hl)
theorem z_ladd (X : zC g κ hs ω cc nL own ret rm) {x y : Int64} (d : decode cc pc = .ok (.ladd, 1)) (k : zJ g κ hs ω Φ nL u lv (pc + 1) (.long (x + y) :: st)) : zJ g κ hs ω Φ nL u lv pc (.long y :: .long x :: st) := fun H locs ls hP hS hl => lv_ladd X.1.1 X.1.2.1 d (k H locs ls hP hS hl)
theorem z_lsub (X : zC g κ hs ω cc nL own ret rm) {x y : Int64} (d : decode cc pc = .ok (.lsub, 1)) (k : zJ g κ hs ω Φ nL u lv (pc + 1) (.long (x - y) :: st)) : zJ g κ hs ω Φ nL u lv pc (.long y :: .long x :: st) := fun H locs ls hP hS hl => lv_lsub X.1.1 X.1.2.1 d (k H locs ls hP hS hl)
theorem z_lmul (X : zC g κ hs ω cc nL own ret rm) {x y : Int64} (d : decode cc pc = .ok (.lmul, 1)) (k : zJ g κ hs ω Φ nL u lv (pc + 1) (.long (x * y) :: st)) : zJ g κ hs ω Φ nL u lv pc (.long y :: .long x :: st) := fun H locs ls hP hS hl => lv_lmul X.1.1 X.1.2.1 d (k H locs ls hP hS hl)
theorem z_land (X : zC g κ hs ω cc nL own ret rm) {x y : Int64} (d : decode cc pc = .ok (.land, 1)) (k : zJ g κ hs ω Φ nL u lv (pc + 1) (.long (x &&& y) :: st)) : zJ g κ hs ω Φ nL u lv pc (.long y :: .long x :: st) := fun H locs ls hP hS hl => lv_land X.1.1 X.1.2.1 d (k H locs ls hP hS hl)
theorem z_lor (X : zC g κ hs ω cc nL own ret rm) {x y : Int64} (d : decode cc pc = .ok (.lor, 1)) (k : zJ g κ hs ω Φ nL u lv (pc + 1) (.long (x ||| y) :: st)) : zJ g κ hs ω Φ nL u lv pc (.long y :: .long x :: st) := fun H locs ls hP hS hl => lv_lor X.1.1 X.1.2.1 d (k H locs ls hP hS hl)
theorem z_idiv (X : zC g κ hs ω cc nL own ret rm) {x y : Int32} (d : decode cc pc = .ok (.idiv, 1)) (hne : ¬ y = 0) (k : zJ g κ hs ω Φ nL u lv (pc + 1) (.int (x / y) :: st)) : zJ g κ hs ω Φ nL u lv pc (.int y :: .int x :: st) := fun H locs ls hP hS hl => lv_idiv X.1.1 X.1.2.1 d hne (k H locs ls hP hS hl)
theorem z_irem (X : zC g κ hs ω cc nL own ret rm) {x y : Int32} (d : decode cc pc = .ok (.irem, 1)) (hne : ¬ y = 0) (k : zJ g κ hs ω Φ nL u lv (pc + 1) (.int (x - x / y * y) :: st)) : zJ g κ hs ω Φ nL u lv pc (.int y :: .int x :: st) := fun H locs ls hP hS hl => lv_irem X.1.1 X.1.2.1 d hne (k H locs ls hP hS hl)
theorem z_ldiv (X : zC g κ hs ω cc nL own ret rm) {x y : Int64} (d : decode cc pc = .ok (.ldiv, 1)) (hne : ¬ y = 0) (k : zJ g κ hs ω Φ nL u lv (pc + 1) (.long (x / y) :: st)) : zJ g κ hs ω Φ nL u lv pc (.long y :: .long x :: st) := fun H locs ls hP hS hl => lv_ldiv X.1.1 X.1.2.1 d hne (k H locs ls hP hS hl)
theorem z_ishl (X : zC g κ hs ω cc nL own ret rm) {x y : Int32} (d : decode cc pc = .ok (.ishl, 1)) (k : zJ g κ hs ω Φ nL u lv (pc + 1) (.int (x <<< (y &&& 31)) :: st)) : zJ g κ hs ω Φ nL u lv pc (.int y :: .int x :: st) := fun H locs ls hP hS hl => lv_ishl X.1.1 X.1.2.1 d (k H locs ls hP hS hl)
theorem z_ishr (X : zC g κ hs ω cc nL own ret rm) {x y : Int32} (d : decode cc pc = .ok (.ishr, 1)) (k : zJ g κ hs ω Φ nL u lv (pc + 1) (.int (x >>> (y &&& 31)) :: st)) : zJ g κ hs ω Φ nL u lv pc (.int y :: .int x :: st) := fun H locs ls hP hS hl => lv_ishr X.1.1 X.1.2.1 d (k H locs ls hP hS hl)
theorem z_iushr (X : zC g κ hs ω cc nL own ret rm) {x y : Int32} (d : decode cc pc = .ok (.iushr, 1)) (k : zJ g κ hs ω Φ nL u lv (pc + 1) (.int (x.toUInt32 >>> (y.toUInt32 &&& Int32.toUInt32 31)).toInt32 :: st)) : zJ g κ hs ω Φ nL u lv pc (.int y :: .int x :: st) := fun H locs ls hP hS hl => lv_iushr X.1.1 X.1.2.1 d rfl (k H locs ls hP hS hl)
theorem z_lshl (X : zC g κ hs ω cc nL own ret rm) {x : Int64} {y : Int32} (d : decode cc pc = .ok (.lshl, 1)) (k : zJ g κ hs ω Φ nL u lv (pc + 1) (.long (x <<< (y.toInt64 &&& 63)) :: st)) : zJ g κ hs ω Φ nL u lv pc (.int y :: .long x :: st) := fun H locs ls hP hS hl => lv_lshl X.1.1 X.1.2.1 d rfl (k H locs ls hP hS hl)
theorem z_lshr (X : zC g κ hs ω cc nL own ret rm) {x : Int64} {y : Int32} (d : decode cc pc = .ok (.lshr, 1)) (k : zJ g κ hs ω Φ nL u lv (pc + 1) (.long (x >>> (y.toInt64 &&& 63)) :: st)) : zJ g κ hs ω Φ nL u lv pc (.int y :: .long x :: st) := fun H locs ls hP hS hl => lv_lshr X.1.1 X.1.2.1 d rfl (k H locs ls hP hS hl)
theorem z_i2l (X : zC g κ hs ω cc nL own ret rm) {x : Int32} (d : decode cc pc = .ok (.i2l, 1)) (k : zJ g κ hs ω Φ nL u lv (pc + 1) (.long x.toInt64 :: st)) : zJ g κ hs ω Φ nL u lv pc (.int x :: st) := fun H locs ls hP hS hl => lv_i2l X.1.1 X.1.2.1 d rfl (k H locs ls hP hS hl)
theorem z_l2i (X : zC g κ hs ω cc nL own ret rm) {x : Int64} (d : decode cc pc = .ok (.l2i, 1)) (k : zJ g κ hs ω Φ nL u lv (pc + 1) (.int x.toInt32 :: st)) : zJ g κ hs ω Φ nL u lv pc (.long x :: st) := fun H locs ls hP hS hl => lv_l2i X.1.1 X.1.2.1 d rfl (k H locs ls hP hS hl)
theorem z_dup (X : zC g κ hs ω cc nL own ret rm) {va : Value} (d : decode cc pc = .ok (.dup, 1)) (hva : va.category = 1) (k : zJ g κ hs ω Φ nL u lv (pc + 1) (va :: va :: st)) : zJ g κ hs ω Φ nL u lv pc (va :: st) := fun H locs ls hP hS hl => lv_dup X.1.1 X.1.2.1 d hva (k H locs ls hP hS hl)
theorem z_pop (X : zC g κ hs ω cc nL own ret rm) {va : Value} (d : decode cc pc = .ok (.pop, 1)) (hva : va.category = 1) (k : zJ g κ hs ω Φ nL u lv (pc + 1) st) : zJ g κ hs ω Φ nL u lv pc (va :: st) := fun H locs ls hP hS hl => lv_pop X.1.1 X.1.2.1 d hva (k H locs ls hP hS hl)
theorem z_ldc2 (X : zC g κ hs ω cc nL own ret rm) {idx : Nat} {v : Int64} (hc : Cond.constantLong own idx v ∈ zT) (d : decode cc pc = .ok (.ldc2_w idx, 3)) (k : zJ g κ hs ω Φ nL u lv (pc + 3) (.long v :: st)) : zJ g κ hs ω Φ nL u lv pc st := fun H locs ls hP hS hl => lv_ldc2 X.1.1 X.1.2.1 X.1.2.2.2.1 (X.1.2.2.2.2 _ hc) d (k H locs ls hP hS hl)
theorem z_ldcw (X : zC g κ hs ω cc nL own ret rm) {idx : Nat} {v : Int32} (hc : Cond.constant own idx v ∈ zT) (d : decode cc pc = .ok (.ldc_w idx, 3)) (k : zJ g κ hs ω Φ nL u lv (pc + 3) (.int v :: st)) : zJ g κ hs ω Φ nL u lv pc st := fun H locs ls hP hS hl => lv_ldcw X.1.1 X.1.2.1 X.1.2.2.2.1 (X.1.2.2.2.2 _ hc) d (k H locs ls hP hS hl)
theorem z_goto (X : zC g κ hs ω cc nL own ret rm) {off : Int} {tgt : Nat} (d : decode cc pc = .ok (.goto off, 3)) (ht : (pc : Int) + off = (tgt : Int)) (k : zJ g κ hs ω Φ nL u lv tgt st) : zJ g κ hs ω Φ nL u lv pc st := fun H locs ls hP hS hl => lv_goto X.1.1 X.1.2.1 d ht (k H locs ls hP hS hl)
theorem z_icmp_eq (X : zC g κ hs ω cc nL own ret rm) {x y : Int32} {off : Int} {tgt : Nat} (d : decode cc pc = .ok (.if_icmp .eq off, 3)) (ht : (pc : Int) + off = (tgt : Int)) (kt : x = y → zJ g κ hs ω Φ nL u lv tgt st) (kf : ¬ x = y → zJ g κ hs ω Φ nL u lv (pc + 3) st) : zJ g κ hs ω Φ nL u lv pc (.int y :: .int x :: st) := fun H locs ls hP hS hl => lv_icmp_eq X.1.1 X.1.2.1 d ht (fun q => kt q H locs ls hP hS hl) (fun q => kf q H locs ls hP hS hl)
theorem z_icmp_ne (X : zC g κ hs ω cc nL own ret rm) {x y : Int32} {off : Int} {tgt : Nat} (d : decode cc pc = .ok (.if_icmp .ne off, 3)) (ht : (pc : Int) + off = (tgt : Int)) (kt : ¬ x = y → zJ g κ hs ω Φ nL u lv tgt st) (kf : x = y → zJ g κ hs ω Φ nL u lv (pc + 3) st) : zJ g κ hs ω Φ nL u lv pc (.int y :: .int x :: st) := fun H locs ls hP hS hl => lv_icmp_ne X.1.1 X.1.2.1 d ht (fun q => kt q H locs ls hP hS hl) (fun q => kf q H locs ls hP hS hl)
theorem z_icmp_lt (X : zC g κ hs ω cc nL own ret rm) {x y : Int32} {off : Int} {tgt : Nat} (d : decode cc pc = .ok (.if_icmp .lt off, 3)) (ht : (pc : Int) + off = (tgt : Int)) (kt : x < y → zJ g κ hs ω Φ nL u lv tgt st) (kf : ¬ x < y → zJ g κ hs ω Φ nL u lv (pc + 3) st) : zJ g κ hs ω Φ nL u lv pc (.int y :: .int x :: st) := fun H locs ls hP hS hl => lv_icmp_lt X.1.1 X.1.2.1 d ht (fun q => kt q H locs ls hP hS hl) (fun q => kf q H locs ls hP hS hl)
theorem z_icmp_ge (X : zC g κ hs ω cc nL own ret rm) {x y : Int32} {off : Int} {tgt : Nat} (d : decode cc pc = .ok (.if_icmp .ge off, 3)) (ht : (pc : Int) + off = (tgt : Int)) (kt : ¬ x < y → zJ g κ hs ω Φ nL u lv tgt st) (kf : x < y → zJ g κ hs ω Φ nL u lv (pc + 3) st) : zJ g κ hs ω Φ nL u lv pc (.int y :: .int x :: st) := fun H locs ls hP hS hl => lv_icmp_ge X.1.1 X.1.2.1 d ht (fun q => kt (Int32.not_lt.mpr q) H locs ls hP hS hl) (fun q => kf (Int32.not_le.mp q) H locs ls hP hS hl)
theorem z_icmp_gt (X : zC g κ hs ω cc nL own ret rm) {x y : Int32} {off : Int} {tgt : Nat} (d : decode cc pc = .ok (.if_icmp .gt off, 3)) (ht : (pc : Int) + off = (tgt : Int)) (kt : y < x → zJ g κ hs ω Φ nL u lv tgt st) (kf : ¬ y < x → zJ g κ hs ω Φ nL u lv (pc + 3) st) : zJ g κ hs ω Φ nL u lv pc (.int y :: .int x :: st) := fun H locs ls hP hS hl => lv_icmp_gt X.1.1 X.1.2.1 d ht (fun q => kt q H locs ls hP hS hl) (fun q => kf q H locs ls hP hS hl)
theorem z_icmp_le (X : zC g κ hs ω cc nL own ret rm) {x y : Int32} {off : Int} {tgt : Nat} (d : decode cc pc = .ok (.if_icmp .le off, 3)) (ht : (pc : Int) + off = (tgt : Int)) (kt : ¬ y < x → zJ g κ hs ω Φ nL u lv tgt st) (kf : y < x → zJ g κ hs ω Φ nL u lv (pc + 3) st) : zJ g κ hs ω Φ nL u lv pc (.int y :: .int x :: st) := fun H locs ls hP hS hl => lv_icmp_le X.1.1 X.1.2.1 d ht (fun q => kt (Int32.not_lt.mpr q) H locs ls hP hS hl) (fun q => kf (Int32.not_le.mp q) H locs ls hP hS hl)
theorem z_if_eq (X : zC g κ hs ω cc nL own ret rm) {x : Int32} {off : Int} {tgt : Nat} (d : decode cc pc = .ok (.ifCond .eq off, 3)) (ht : (pc : Int) + off = (tgt : Int)) (kt : x = 0 → zJ g κ hs ω Φ nL u lv tgt st) (kf : ¬ x = 0 → zJ g κ hs ω Φ nL u lv (pc + 3) st) : zJ g κ hs ω Φ nL u lv pc (.int x :: st) := fun H locs ls hP hS hl => lv_if_eq X.1.1 X.1.2.1 d ht (fun q => kt q H locs ls hP hS hl) (fun q => kf q H locs ls hP hS hl)
theorem z_if_ne (X : zC g κ hs ω cc nL own ret rm) {x : Int32} {off : Int} {tgt : Nat} (d : decode cc pc = .ok (.ifCond .ne off, 3)) (ht : (pc : Int) + off = (tgt : Int)) (kt : ¬ x = 0 → zJ g κ hs ω Φ nL u lv tgt st) (kf : x = 0 → zJ g κ hs ω Φ nL u lv (pc + 3) st) : zJ g κ hs ω Φ nL u lv pc (.int x :: st) := fun H locs ls hP hS hl => lv_if_ne X.1.1 X.1.2.1 d ht (fun q => kt q H locs ls hP hS hl) (fun q => kf q H locs ls hP hS hl)
theorem z_if_lt (X : zC g κ hs ω cc nL own ret rm) {x : Int32} {off : Int} {tgt : Nat} (d : decode cc pc = .ok (.ifCond .lt off, 3)) (ht : (pc : Int) + off = (tgt : Int)) (kt : x < 0 → zJ g κ hs ω Φ nL u lv tgt st) (kf : ¬ x < 0 → zJ g κ hs ω Φ nL u lv (pc + 3) st) : zJ g κ hs ω Φ nL u lv pc (.int x :: st) := fun H locs ls hP hS hl => lv_if_lt X.1.1 X.1.2.1 d ht (fun q => kt q H locs ls hP hS hl) (fun q => kf q H locs ls hP hS hl)
theorem z_if_ge (X : zC g κ hs ω cc nL own ret rm) {x : Int32} {off : Int} {tgt : Nat} (d : decode cc pc = .ok (.ifCond .ge off, 3)) (ht : (pc : Int) + off = (tgt : Int)) (kt : ¬ x < 0 → zJ g κ hs ω Φ nL u lv tgt st) (kf : x < 0 → zJ g κ hs ω Φ nL u lv (pc + 3) st) : zJ g κ hs ω Φ nL u lv pc (.int x :: st) := fun H locs ls hP hS hl => lv_if_ge X.1.1 X.1.2.1 d ht (fun q => kt (Int32.not_lt.mpr q) H locs ls hP hS hl) (fun q => kf (Int32.not_le.mp q) H locs ls hP hS hl)
theorem z_if_gt (X : zC g κ hs ω cc nL own ret rm) {x : Int32} {off : Int} {tgt : Nat} (d : decode cc pc = .ok (.ifCond .gt off, 3)) (ht : (pc : Int) + off = (tgt : Int)) (kt : 0 < x → zJ g κ hs ω Φ nL u lv tgt st) (kf : ¬ 0 < x → zJ g κ hs ω Φ nL u lv (pc + 3) st) : zJ g κ hs ω Φ nL u lv pc (.int x :: st) := fun H locs ls hP hS hl => lv_if_gt X.1.1 X.1.2.1 d ht (fun q => kt q H locs ls hP hS hl) (fun q => kf q H locs ls hP hS hl)
theorem z_if_le (X : zC g κ hs ω cc nL own ret rm) {x : Int32} {off : Int} {tgt : Nat} (d : decode cc pc = .ok (.ifCond .le off, 3)) (ht : (pc : Int) + off = (tgt : Int)) (kt : ¬ 0 < x → zJ g κ hs ω Φ nL u lv tgt st) (kf : 0 < x → zJ g κ hs ω Φ nL u lv (pc + 3) st) : zJ g κ hs ω Φ nL u lv pc (.int x :: st) := fun H locs ls hP hS hl => lv_if_le X.1.1 X.1.2.1 d ht (fun q => kt (Int32.not_lt.mpr q) H locs ls hP hS hl) (fun q => kf (Int32.not_le.mp q) H locs ls hP hS hl)
theorem lg_lt {x y : Int64} : lg_cmp x y < 0 ↔ x < y := by
  unfold lg_cmp; by_cases h1 : y < x
  · simp only [if_pos h1]; exact ⟨fun h => absurd h (by decide), fun h => absurd (Int64.lt_trans h h1) Int64.lt_irrefl⟩
  · by_cases h2 : x = y
    · simp only [if_neg h1, if_pos h2]; exact ⟨fun h => absurd h (by decide), fun h => absurd h (by rw [h2]; exact Int64.lt_irrefl)⟩
    · simp only [if_neg h1, if_neg h2]; exact ⟨fun _ => Int64.lt_of_le_of_ne (Int64.not_lt.mp h1) h2, fun _ => by decide⟩
theorem lg_eq {x y : Int64} : lg_cmp x y = 0 ↔ x = y := by
  unfold lg_cmp; by_cases h1 : y < x
  · simp only [if_pos h1]; exact ⟨fun h => absurd h (by decide), fun h => absurd h1 (by rw [h]; exact Int64.lt_irrefl)⟩
  · by_cases h2 : x = y
    · simp only [if_neg h1, if_pos h2]; exact ⟨fun _ => h2, fun _ => trivial⟩
    · simp only [if_neg h1, if_neg h2]; exact ⟨fun h => absurd h (by decide), fun h => absurd h h2⟩
theorem lg_gt {x y : Int64} : 0 < lg_cmp x y ↔ y < x := by
  unfold lg_cmp; by_cases h1 : y < x
  · simp only [if_pos h1]; exact ⟨fun _ => h1, fun _ => by decide⟩
  · by_cases h2 : x = y
    · simp only [if_neg h1, if_pos h2]; exact ⟨fun h => absurd h (by decide), fun h => absurd h h1⟩
    · simp only [if_neg h1, if_neg h2]; exact ⟨fun h => absurd h (by decide), fun h => absurd h h1⟩
theorem z_lcmp_eq (X : zC g κ hs ω cc nL own ret rm) {x y : Int64} {off : Int} {tgt : Nat} (d0 : decode cc pc = .ok (.lcmp, 1)) (d : decode cc (pc + 1) = .ok (.ifCond .eq off, 3)) (ht : ((pc + 1 : Nat) : Int) + off = (tgt : Int)) (kt : x = y → zJ g κ hs ω Φ nL u lv tgt st) (kf : ¬ x = y → zJ g κ hs ω Φ nL u lv (pc + 1 + 3) st) : zJ g κ hs ω Φ nL u lv pc (.long y :: .long x :: st) := fun H locs ls hP hS hl => W.lcmp X.1.1 X.1.2.1 d0 (lv_if_eq X.1.1 X.1.2.1 d ht (fun q => kt (lg_eq.mp q) H locs ls hP hS hl) (fun q => kf (fun z => q (lg_eq.mpr z)) H locs ls hP hS hl))
theorem z_lcmp_ne (X : zC g κ hs ω cc nL own ret rm) {x y : Int64} {off : Int} {tgt : Nat} (d0 : decode cc pc = .ok (.lcmp, 1)) (d : decode cc (pc + 1) = .ok (.ifCond .ne off, 3)) (ht : ((pc + 1 : Nat) : Int) + off = (tgt : Int)) (kt : ¬ x = y → zJ g κ hs ω Φ nL u lv tgt st) (kf : x = y → zJ g κ hs ω Φ nL u lv (pc + 1 + 3) st) : zJ g κ hs ω Φ nL u lv pc (.long y :: .long x :: st) := fun H locs ls hP hS hl => W.lcmp X.1.1 X.1.2.1 d0 (lv_if_ne X.1.1 X.1.2.1 d ht (fun q => kt (fun z => q (lg_eq.mpr z)) H locs ls hP hS hl) (fun q => kf (lg_eq.mp q) H locs ls hP hS hl))
theorem z_lcmp_lt (X : zC g κ hs ω cc nL own ret rm) {x y : Int64} {off : Int} {tgt : Nat} (d0 : decode cc pc = .ok (.lcmp, 1)) (d : decode cc (pc + 1) = .ok (.ifCond .lt off, 3)) (ht : ((pc + 1 : Nat) : Int) + off = (tgt : Int)) (kt : x < y → zJ g κ hs ω Φ nL u lv tgt st) (kf : ¬ x < y → zJ g κ hs ω Φ nL u lv (pc + 1 + 3) st) : zJ g κ hs ω Φ nL u lv pc (.long y :: .long x :: st) := fun H locs ls hP hS hl => W.lcmp X.1.1 X.1.2.1 d0 (lv_if_lt X.1.1 X.1.2.1 d ht (fun q => kt (lg_lt.mp q) H locs ls hP hS hl) (fun q => kf (fun z => q (lg_lt.mpr z)) H locs ls hP hS hl))
theorem z_lcmp_ge (X : zC g κ hs ω cc nL own ret rm) {x y : Int64} {off : Int} {tgt : Nat} (d0 : decode cc pc = .ok (.lcmp, 1)) (d : decode cc (pc + 1) = .ok (.ifCond .ge off, 3)) (ht : ((pc + 1 : Nat) : Int) + off = (tgt : Int)) (kt : ¬ x < y → zJ g κ hs ω Φ nL u lv tgt st) (kf : x < y → zJ g κ hs ω Φ nL u lv (pc + 1 + 3) st) : zJ g κ hs ω Φ nL u lv pc (.long y :: .long x :: st) := fun H locs ls hP hS hl => W.lcmp X.1.1 X.1.2.1 d0 (lv_if_ge X.1.1 X.1.2.1 d ht (fun q => kt (fun z => Int32.not_lt.mpr q (lg_lt.mpr z)) H locs ls hP hS hl) (fun q => kf (lg_lt.mp (Int32.not_le.mp q)) H locs ls hP hS hl))
theorem z_lcmp_gt (X : zC g κ hs ω cc nL own ret rm) {x y : Int64} {off : Int} {tgt : Nat} (d0 : decode cc pc = .ok (.lcmp, 1)) (d : decode cc (pc + 1) = .ok (.ifCond .gt off, 3)) (ht : ((pc + 1 : Nat) : Int) + off = (tgt : Int)) (kt : y < x → zJ g κ hs ω Φ nL u lv tgt st) (kf : ¬ y < x → zJ g κ hs ω Φ nL u lv (pc + 1 + 3) st) : zJ g κ hs ω Φ nL u lv pc (.long y :: .long x :: st) := fun H locs ls hP hS hl => W.lcmp X.1.1 X.1.2.1 d0 (lv_if_gt X.1.1 X.1.2.1 d ht (fun q => kt (lg_gt.mp q) H locs ls hP hS hl) (fun q => kf (fun z => q (lg_gt.mpr z)) H locs ls hP hS hl))
theorem z_lcmp_le (X : zC g κ hs ω cc nL own ret rm) {x y : Int64} {off : Int} {tgt : Nat} (d0 : decode cc pc = .ok (.lcmp, 1)) (d : decode cc (pc + 1) = .ok (.ifCond .le off, 3)) (ht : ((pc + 1 : Nat) : Int) + off = (tgt : Int)) (kt : ¬ y < x → zJ g κ hs ω Φ nL u lv tgt st) (kf : y < x → zJ g κ hs ω Φ nL u lv (pc + 1 + 3) st) : zJ g κ hs ω Φ nL u lv pc (.long y :: .long x :: st) := fun H locs ls hP hS hl => W.lcmp X.1.1 X.1.2.1 d0 (lv_if_le X.1.1 X.1.2.1 d ht (fun q => kt (fun z => Int32.not_lt.mpr q (lg_gt.mpr z)) H locs ls hP hS hl) (fun q => kf (lg_gt.mp (Int32.not_le.mp q)) H locs ls hP hS hl))
theorem z_tableOut (X : zC g κ hs ω cc nL own ret rm) {dflt lo hi : Int} {offs : Array Int} {len : Nat} {x : Int32} {tgt : Nat} (d : decode cc pc = .ok (.tableswitch dflt lo hi offs, len)) (h : x.toInt < lo ∨ hi < x.toInt) (ht : (pc : Int) + dflt = (tgt : Int)) (k : zJ g κ hs ω Φ nL u lv tgt st) : zJ g κ hs ω Φ nL u lv pc (.int x :: st) := fun H locs ls hP hS hl => lv_tableOut X.1.1 X.1.2.1 d h ht (k H locs ls hP hS hl)
theorem z_tableIn (X : zC g κ hs ω cc nL own ret rm) {dflt lo hi : Int} {offs : Array Int} {len : Nat} {x z : Int32} {off : Int} {tgt : Nat} (d : decode cc pc = .ok (.tableswitch dflt lo hi offs, len)) (hxz : x = z) (h1 : ¬ z.toInt < lo) (h2 : ¬ hi < z.toInt) (ho : offs[(z.toInt - lo).toNat]? = some off) (ht : (pc : Int) + off = (tgt : Int)) (k : zJ g κ hs ω Φ nL u lv tgt st) : zJ g κ hs ω Φ nL u lv pc (.int x :: st) := fun H locs ls hP hS hl => by subst hxz; exact lv_tableIn X.1.1 X.1.2.1 d h1 h2 ho ht (k H locs ls hP hS hl)
theorem z_lookup (X : zC g κ hs ω cc nL own ret rm) {dflt : Int} {ps : Array (Int × Int)} {len : Nat} {x : Int32} {off : Int} {tgt : Nat} (d : decode cc pc = .ok (.lookupswitch dflt ps, len)) (hp : (ps.toList.zip (ps.toList.drop 1)).all (fun (a, next) => a.1 < next.1) = true) (ho : Op.lookupswitch.offset ps.toList dflt x.toInt = off) (ht : (pc : Int) + off = (tgt : Int)) (k : zJ g κ hs ω Φ nL u lv tgt st) : zJ g κ hs ω Φ nL u lv pc (.int x :: st) := fun H locs ls hP hS hl => lv_lookup X.1.1 X.1.2.1 d hp ho ht (k H locs ls hP hS hl)
theorem z_iret {P : σ → Int32 → Prop} {v : Int32} (X : zC g κ hs ω cc nL own (some .int) rm) (d : decode cc pc = .ok (.ireturn, 1)) (H : P u v) : zJ g κ hs ω (zi P) nL u lv pc [.int v] := fun Hp locs ls hP hS hl => W.iret X.1.1 X.1.2.1 X.2.1 (fun t ht hW => ⟨⟨u, _, rfl, ⟨_, rfl, H⟩, by rw [ht]; exact hP⟩, hS.F ht⟩) hS.2.2 d X.2.2.1
theorem z_zret {P : σ → Int32 → Prop} {v : Int32} (X : zC g κ hs ω cc nL own (some .boolean) rm) (hn : narrow .boolean (.int v) = .int v) (d : decode cc pc = .ok (.ireturn, 1)) (H : P u v) : zJ g κ hs ω (zi P) nL u lv pc [.int v] := fun Hp locs ls hP hS hl => W.zret X.1.1 X.1.2.1 X.2.1 hn (fun t ht hW => ⟨⟨u, _, rfl, ⟨_, rfl, H⟩, by rw [ht]; exact hP⟩, hS.F ht⟩) hS.2.2 d X.2.2.1
theorem z_lret {P : σ → Int64 → Prop} {v : Int64} (X : zC g κ hs ω cc nL own (some .long) rm) (d : decode cc pc = .ok (.lreturn, 1)) (H : P u v) : zJ g κ hs ω (zl P) nL u lv pc [.long v] := fun Hp locs ls hP hS hl => W.lret X.1.1 X.1.2.1 X.2.1 (fun t ht hW => ⟨⟨u, _, rfl, ⟨_, rfl, H⟩, by rw [ht]; exact hP⟩, hS.F ht⟩) hS.2.2 d X.2.2.1
theorem z_vret {P : σ → Prop} (X : zC g κ hs ω cc nL own none rm) (d : decode cc pc = .ok (.return_, 1)) (H : P u) : zJ g κ hs ω (zv P) nL u lv pc [] := fun Hp locs ls hP hS hl => W.vret X.1.1 X.1.2.1 X.2.1 (fun t ht hW => ⟨⟨u, _, rfl, ⟨rfl, H⟩, by rw [ht]; exact hP⟩, hS.F ht⟩) hS.2.2 d X.2.2.1
end ZI
theorem z_siret {g : zE} {κ : zK} {cc : ByteArray} {nL : Nat} {own : String} {rm : Room} {lv : List (Nat × Value)} {pc : Nat} {P : Int32 → Prop} {v : Int32} (X : zC g κ [] zw0 cc nL own (some .int) rm) (d : decode cc pc = .ok (.ireturn, 1)) (H : P v) : zJ g κ [] zw0 (zsi P) nL () lv pc [.int v] := fun Hp locs ls hP hS hl => W.iret X.1.1 X.1.2.1 X.2.1 (fun t ht hW => ⟨⟨(), _, rfl, ⟨_, rfl, H⟩, by rw [ht]; exact hP⟩, hS.F ht⟩) hS.2.2 d X.2.2.1
theorem z_szret {g : zE} {κ : zK} {cc : ByteArray} {nL : Nat} {own : String} {rm : Room} {lv : List (Nat × Value)} {pc : Nat} {P : Int32 → Prop} {v : Int32} (X : zC g κ [] zw0 cc nL own (some .boolean) rm) (hn : narrow .boolean (.int v) = .int v) (d : decode cc pc = .ok (.ireturn, 1)) (H : P v) : zJ g κ [] zw0 (zsi P) nL () lv pc [.int v] := fun Hp locs ls hP hS hl => W.zret X.1.1 X.1.2.1 X.2.1 hn (fun t ht hW => ⟨⟨(), _, rfl, ⟨_, rfl, H⟩, by rw [ht]; exact hP⟩, hS.F ht⟩) hS.2.2 d X.2.2.1
theorem z_D0 : ∀ u : Unit, va_D (fun q => q ∈ ([] : List Nat)) (zw0 u) := fun _ => ⟨fun i j p q h => by simp [zw0] at h, fun k q h => by simp [zw0] at h⟩
/-- what is fixed of a method that is called -/
def zY (y : MethodName) (bytes : ByteArray) (maxL : Nat) (ret : Option FieldType) (n : Nat) : Prop := Cond.code y bytes maxL ret ∈ zT ∧ Cond.initialized y.cls ∈ zT ∧ (y.cls ≠ "java/lang/invoke/MethodHandle" ∧ y.cls ≠ "java/lang/invoke/VarHandle" ∧ (parseMethodDescriptor y.desc).map (fun d => d.parameters.length) = some n)
section ZR
variable {σ : Type} {g : zE} {κ : zK} {hs : List Nat} {ω : σ → va_W} {Φ : σ → Option Value → Prop} {cc : ByteArray} {nL : Nat} {own : String} {ret : Option FieldType} {rm : Room} {u : σ} {lv : List (Nat × Value)} {pc : Nat} {st0 : List Value}
theorem z_callV {y : MethodName} {bytes : ByteArray} {maxL : Nat} {ret1 : Option FieldType} {rm1 : Room} {b : Nat} {As rest : List Value} {Φ1 : σ → Option Value → Prop} {idx n : Nat} {C : String} {T : u_T} {N : Nat} {fs : List Value} (X : zC g κ hs ω cc nL own ret rm) (Y : zY y bytes maxL ret1 n) (hml : Cond.methodLink own idx y ∈ zT) (him : Cond.instanceMethod y ∈ zT) (hse : Cond.selects C y y ∈ zT)
    (M : zM g.2.1 κ hs ω y bytes maxL ret1 rm1 (.ref b :: As) u Φ1) (ci q0 : Nat) (hc : vwCl[ci]? = some (C, T, N)) (he : (ω u)[q0]? = some (b, .inr (ci, fs))) (hn : As.length = n)
    (hz : rm1.cells = 0 ∧ rm1.slots = 0) (hR : rm1.frames + 1 ≤ rm.frames ∧ 8 + (maxL + 11) + rm1.locals ≤ rm.locals) (hst : st0 = As.reverse ++ .ref b :: rest) (hroom : (rest.map fun v => v.category).sum ≤ 8) (d : decode cc pc = .ok (.invokevirtual idx, 3))
    (kk : ∀ (u' : σ) (r : Option Value), Φ1 u' r → zJ g κ hs ω Φ nL u' lv (pc + 3) (r.toList ++ rest)) : zJ g κ hs ω Φ nL u lv pc st0 := by
  intro H locs ls hP hS hl
  obtain ⟨p, l, e, R, s, m, args, below, meth, c⟩ := g
  obtain ⟨S, hret, hlk, hK, hN, hRr, hD⟩ := X
  have hRr : R = rm := hRr
  subst hRr
  subst hst
  have hts : ∀ w ∈ zT, w.before args s = true := S.2.2.2.2
  have cw : CallW R s args own C idx y bytes maxL ret1 (.code y bytes maxL ret1 :: zT) rm1 0 0 n := ⟨callB_of n hts (zT_code Y.1) rfl hz.1 hz.2 (hts _ Y.2.1) (hts _ hml) Y.2.2 hR, hts _ him, hts _ hse⟩
  have hp : PreV s H C b (zP κ (.ref b :: As) (ω u)) As := ⟨zP_blind _ _ _, va_recv hK hP hc he, fun U hU hW => ⟨rfl, by rw [hU]; exact hP, va_K.moved hW.alike hK, hN.warm hW⟩⟩
  intro T0 hT X0
  obtain ⟨v, st₀, t, T', L, h0, X', hL, e1, e2, ⟨⟨u', r, hv, hΦ, hP'⟩, hsz, hk⟩, stp⟩ := va_runV (g := F0 m pc ls (As.reverse ++ .ref b :: rest)) S M cw hp rfl hn hl.1 rfl (lv_room hroom) d ⟨Nat.zero_le _, Nat.zero_le _⟩ T0 hT X0
  cases hv
  rw [h0] at hsz hk
  obtain ⟨t2, a1, b1⟩ := kk u' _ hΦ T'.heap (locs ++ L) ls (by rw [e1]; exact hP') ⟨Nat.le_trans hS.1 (by rw [e1]; exact hsz), fun q h1 h2 => by rw [e1, hk q (Nat.lt_of_lt_of_le h1 hS.1) h2]; exact hS.2.1 q h1 h2, fun q hq => (List.mem_append.mp hq).elim (hS.2.2 q) (hL q)⟩ hl T' rfl X'
  exact ⟨t2, stp t2 a1, b1⟩
theorem z_callS {y : MethodName} {bytes : ByteArray} {maxL : Nat} {ret1 : Option FieldType} {rm1 : Room} {As rest : List Value} {P : Int32 → Prop} {idx n : Nat} (X : zC g κ hs ω cc nL own ret rm) (Y : zY y bytes maxL ret1 n) (hml : Cond.methodLink own idx y ∈ zT) (hstt : Cond.static y ∈ zT)
    (M : zM g.2.1 κ [] zw0 y bytes maxL ret1 rm1 As () (zsi P)) (hn : As.length = n)
    (hz : rm1.cells = 0 ∧ rm1.slots = 0) (hR : rm1.frames + 1 ≤ rm.frames ∧ 8 + (maxL + 11) + rm1.locals ≤ rm.locals) (hst : st0 = As.reverse ++ rest) (hroom : (rest.map fun v => v.category).sum ≤ 8) (d : decode cc pc = .ok (.invokestatic idx, 3))
    (kk : ∀ (r : Int32), P r → zJ g κ hs ω Φ nL u lv (pc + 3) (.int r :: rest)) : zJ g κ hs ω Φ nL u lv pc st0 := by
  intro H locs ls hP hS hl
  obtain ⟨p, l, e, R, s, m, args, below, meth, c⟩ := g
  obtain ⟨S, hret, hlk, hK, hN, hRr, hD⟩ := X
  have hRr : R = rm := hRr
  subst hRr
  subst hst
  have hts : ∀ w ∈ zT, w.before args s = true := S.2.2.2.2
  have cw : CallB R s args own idx y bytes maxL ret1 (.code y bytes maxL ret1 :: zT) rm1 0 0 n ∧ (Cond.static y).before args s = true := ⟨callB_of n hts (zT_code Y.1) rfl hz.1 hz.2 (hts _ Y.2.1) (hts _ hml) Y.2.2 hR, hts _ hstt⟩
  have hp : PreS s H (zP κ As (zw0 ())) As := ⟨zP_blind _ _ _, fun U hU hW => ⟨rfl, fun k q h => by simp [zw0] at h, va_K.moved hW.alike hK, hN.warm hW⟩⟩
  intro T0 hT X0
  obtain ⟨v, st₀, t, T', L, h0, X', hL, e1, e2, ⟨⟨u', r, hv, ⟨r1, hr1, hΦ⟩, hP'⟩, hsz, hk⟩, stp⟩ := va_runS (g := F0 m pc ls (As.reverse ++ rest)) S M cw hp rfl hn hl.1 rfl (lv_room hroom) d ⟨Nat.zero_le _, Nat.zero_le _⟩ T0 hT X0
  cases hv
  cases hr1
  rw [h0] at hsz hk
  have hkeep : ∀ q, q < H.size → T'.heap[q]? = H[q]? := fun q h1 => by rw [e1, hk q h1 (fun z => by cases z)]
  obtain ⟨t2, a1, b1⟩ := kk r1 hΦ T'.heap (locs ++ L) ls (hP.kept (fun k q hq => hkeep _ (hP k q hq).lt)) ⟨Nat.le_trans hS.1 (by rw [e1]; exact hsz), fun q h1 h2 => by rw [hkeep q (Nat.lt_of_lt_of_le h1 hS.1)]; exact hS.2.1 q h1 h2, fun q hq => (List.mem_append.mp hq).elim (hS.2.2 q) (fun z => absurd (hL q z) (by simp))⟩ hl T' rfl X'
  exact ⟨t2, stp t2 a1, b1⟩
theorem z_callSN {y : MethodName} {bytes : ByteArray} {maxL : Nat} {ret1 : Option FieldType} {rm1 : Room} {As rest : List Value} {P : Int32 → Prop} {idx n : Nat} {host : String} (X : zC g κ hs ω cc nL own ret rm) (Y : zY y bytes maxL ret1 n) (hml : ∀ U, zN U → va_Nw (.methodLinkNest own idx y host) U) (hstt : Cond.static y ∈ zT)
    (M : zM g.2.1 κ [] zw0 y bytes maxL ret1 rm1 As () (zsi P)) (hn : As.length = n)
    (hz : rm1.cells = 0 ∧ rm1.slots = 0) (hR : rm1.frames + 1 ≤ rm.frames ∧ 8 + (maxL + 11) + rm1.locals ≤ rm.locals) (hst : st0 = As.reverse ++ rest) (hroom : (rest.map fun v => v.category).sum ≤ 8) (d : decode cc pc = .ok (.invokestatic idx, 3))
    (kk : ∀ (r : Int32), P r → zJ g κ hs ω Φ nL u lv (pc + 3) (.int r :: rest)) : zJ g κ hs ω Φ nL u lv pc st0 := by
  intro H locs ls hP hS hl
  obtain ⟨p, l, e, R, s, m, args, below, meth, c⟩ := g
  obtain ⟨S, hret, hlk, hK, hN, hRr, hD⟩ := X
  have hRr : R = rm := hRr
  subst hRr
  subst hst
  have hts : ∀ w ∈ zT, w.before args s = true := S.2.2.2.2
  have cw : va_CN R s args own idx y host bytes maxL ret1 (.code y bytes maxL ret1 :: zT) rm1 0 0 n ∧ (Cond.static y).before args s = true ∧ True := ⟨va_cnB n hts (zT_code Y.1) rfl hz.1 hz.2 (hml s hN) (hts _ Y.2.1) Y.2.2 hR, hts _ hstt, trivial⟩
  have hp : PreS s H (zP κ As (zw0 ())) As := ⟨zP_blind _ _ _, fun U hU hW => ⟨rfl, fun k q h => by simp [zw0] at h, va_K.moved hW.alike hK, hN.warm hW⟩⟩
  intro T0 hT X0
  obtain ⟨v, st₀, t, T', L, h0, X', hL, e1, e2, ⟨⟨u', r, hv, ⟨r1, hr1, hΦ⟩, hP'⟩, hsz, hk⟩, stp⟩ := va_runSN (g := F0 m pc ls (As.reverse ++ rest)) S M cw hp rfl hn hl.1 rfl (lv_room hroom) d ⟨Nat.zero_le _, Nat.zero_le _⟩ T0 hT X0
  cases hv
  cases hr1
  rw [h0] at hsz hk
  have hkeep : ∀ q, q < H.size → T'.heap[q]? = H[q]? := fun q h1 => by rw [e1, hk q h1 (fun z => by cases z)]
  obtain ⟨t2, a1, b1⟩ := kk r1 hΦ T'.heap (locs ++ L) ls (hP.kept (fun k q hq => hkeep _ (hP k q hq).lt)) ⟨Nat.le_trans hS.1 (by rw [e1]; exact hsz), fun q h1 h2 => by rw [hkeep q (Nat.lt_of_lt_of_le h1 hS.1)]; exact hS.2.1 q h1 h2, fun q hq => (List.mem_append.mp hq).elim (hS.2.2 q) (fun z => absurd (hL q z) (by simp))⟩ hl T' rfl X'
  exact ⟨t2, stp t2 a1, b1⟩
theorem z_mmax {idx : Nat} {x y : Int32} {st : List Value} (X : zC g κ hs ω cc nL own ret rm) (hml : Cond.methodLink own idx Lib.Math.max.name ∈ zT) (hR : 1 ≤ rm.frames ∧ (st.map fun v => v.category).sum + 13 ≤ rm.locals) (d : decode cc pc = .ok (.invokestatic idx, 3)) (kk : zJ g κ hs ω Φ nL u lv (pc + 3) (.int (if x < y then y else x) :: st)) : zJ g κ hs ω Φ nL u lv pc (.int y :: .int x :: st) := by
  intro H locs ls hP hS hl
  obtain ⟨p, l, e, R, s, m, args, below, meth, c⟩ := g
  obtain ⟨S, hret, hlk, hK, hN, hRr, hD⟩ := X
  have hRr : R = rm := hRr
  subst hRr
  exact va_mmax S.1 S.2.1 (S.2.2.1.trans hl.1.symm) S.2.2.2.1 (S.2.2.2.2 _ hml) (S.2.2.2.2 _ st_J9_max) (S.2.2.2.2 _ in_J9) (S.2.2.2.2 _ cd_J9_max) hR.1 hR.2 (Nat.zero_le _) (Nat.zero_le _) d (kk H locs ls hP hS hl)
theorem z_mmin {idx : Nat} {x y : Int32} {st : List Value} (X : zC g κ hs ω cc nL own ret rm) (hml : Cond.methodLink own idx Lib.Math.min.name ∈ zT) (hR : 1 ≤ rm.frames ∧ (st.map fun v => v.category).sum + 13 ≤ rm.locals) (d : decode cc pc = .ok (.invokestatic idx, 3)) (kk : zJ g κ hs ω Φ nL u lv (pc + 3) (.int (if y < x then y else x) :: st)) : zJ g κ hs ω Φ nL u lv pc (.int y :: .int x :: st) := by
  intro H locs ls hP hS hl
  obtain ⟨p, l, e, R, s, m, args, below, meth, c⟩ := g
  obtain ⟨S, hret, hlk, hK, hN, hRr, hD⟩ := X
  have hRr : R = rm := hRr
  subst hRr
  exact va_mmin S.1 S.2.1 (S.2.2.1.trans hl.1.symm) S.2.2.2.1 (S.2.2.2.2 _ hml) (S.2.2.2.2 _ st_J9_min) (S.2.2.2.2 _ in_J9) (S.2.2.2.2 _ cd_J9_min) hR.1 hR.2 (Nat.zero_le _) (Nat.zero_le _) d (kk H locs ls hP hS hl)
end ZR
end
section
/-! ===== the two worlds: the class's seven cells and the reference's five ===== -/
/-- what both sides hold: the words, how many there are, the firsts of the lists, the links, the refusals, SPOILT, the word told last -/
abbrev CS : Type := (Nat → Int64) × Int32 × (Nat → Int32) × Int32 × Int32 × Int32 × Int32
abbrev sW (c : CS) (x : Nat → Int64) : CS := (x, c.2)
abbrev sN (c : CS) (x : Int32) : CS := (c.1, x, c.2.2)
abbrev sF (c : CS) (x : Nat → Int32) : CS := (c.1, c.2.1, x, c.2.2.2)
abbrev sMv (c : CS) (x : Int32) : CS := (c.1, c.2.1, c.2.2.1, x, c.2.2.2.2)
abbrev sRf (c : CS) (x : Int32) : CS := (c.1, c.2.1, c.2.2.1, c.2.2.2.1, x, c.2.2.2.2.2)
abbrev sSp (c : CS) (x : Int32) : CS := (c.1, c.2.1, c.2.2.1, c.2.2.2.1, c.2.2.2.2.1, x, c.2.2.2.2.2.2)
abbrev sWa (c : CS) (x : Int32) : CS := (c.1, c.2.1, c.2.2.1, c.2.2.2.1, c.2.2.2.2.1, c.2.2.2.2.2.1, x)
/-- the class: and the marks -/
abbrev TS : Type := CS × (Nat → Int32)
/-- the reference: met, begins -/
abbrev MS : Type := CS × (Nat → Int32) × (Nat → Int32)
abbrev zH : Type := Nat × Nat × Nat × Nat × Nat × Nat × Nat
abbrev zG : Type := Nat × Nat × Nat × Nat × Nat
def hsT (h : zH) : List Nat := [h.1, h.2.1, h.2.2.1, h.2.2.2.1, h.2.2.2.2.1, h.2.2.2.2.2.1, h.2.2.2.2.2.2]
def hsM (h : zG) : List Nat := [h.1, h.2.1, h.2.2.1, h.2.2.2.1, h.2.2.2.2]
def wT (κ : zK) (h : zH) (u : TS) : va_W := [(h.1, .inr (3, [.ref h.2.1, .ref h.2.2.2.1, .ref h.2.2.2.2.2.1, .int u.1.2.2.2.2.2.1, .int u.1.2.2.2.2.1])), (h.2.1, .inr (2, [.ref h.2.2.1, .int u.1.2.1])), (h.2.2.1, .inl (κ.2.2.1, 2048, .inr (.inl u.1.1))), (h.2.2.2.1, .inr (1, [.ref h.2.1, .ref h.2.2.2.2.1, .int u.1.2.2.2.1])), (h.2.2.2.2.1, .inl (κ.2.1, 72, .inl u.1.2.2.1)), (h.2.2.2.2.2.1, .inr (0, [.ref h.2.1, .ref h.2.2.2.1, .ref h.2.2.2.2.2.2, .int u.1.2.2.2.2.2.2])), (h.2.2.2.2.2.2, .inl (κ.2.1, 2048, .inl u.2))]
def wM (κ : zK) (h : zG) (u : MS) : va_W := [(h.1, .inr (4, [.ref h.2.1, .int u.1.2.1, .ref h.2.2.1, .int u.1.2.2.2.1, .int u.1.2.2.2.2.1, .int u.1.2.2.2.2.2.1, .int u.1.2.2.2.2.2.2, .ref h.2.2.2.1, .ref h.2.2.2.2])), (h.2.1, .inl (κ.2.2.1, 2048, .inr (.inl u.1.1))), (h.2.2.1, .inl (κ.2.1, 72, .inl u.1.2.2.1)), (h.2.2.2.1, .inl (κ.2.2.2, 2049, .inl u.2.1)), (h.2.2.2.2, .inl (κ.2.2.2, 2049, .inl u.2.2))]
abbrev zDT (κ : zK) (h : zH) : Prop := ∀ u, va_D (fun q => q ∈ hsT h) (wT κ h u)
abbrev zDM (κ : zK) (h : zG) : Prop := ∀ u, va_D (fun q => q ∈ hsM h) (wM κ h u)
/-- the cells' addresses alone tell whether a world is laid out well -/
theorem va_D.move {A B : Nat → Prop} {w w' : va_W} (h : va_D A w) (e : w.map (fun q => q.1) = w'.map (fun q => q.1)) (hB : ∀ q ∈ w.map (fun q => q.1), B q) : va_D B w' := by
  have at' : ∀ (k : Nat) (q : Nat × va_E), w'[k]? = some q → ∃ q0, w[k]? = some q0 ∧ q0.1 = q.1 := fun k q hk => by
    have h1 : (w'.map (fun q => q.1))[k]? = some q.1 := by rw [List.getElem?_map, hk]; rfl
    rw [← e, List.getElem?_map] at h1
    match h2 : w[k]? with
    | none => rw [h2] at h1; cases h1
    | some q0 => rw [h2] at h1; exact ⟨q0, rfl, Option.some.inj h1⟩
  refine ⟨fun i j p q hp hq hpq => ?_, fun k q hk => ?_⟩
  · obtain ⟨p0, a1, a2⟩ := at' i p hp
    obtain ⟨q0, b1, b2⟩ := at' j q hq
    exact h.1 i j p0 q0 a1 b1 (by rw [a2, b2, hpq])
  · obtain ⟨q0, a1, a2⟩ := at' k q hk
    rw [← a2]
    exact hB _ (List.mem_map.mpr ⟨q0, List.mem_of_getElem? a1, rfl⟩)
theorem zDT.of {κ : zK} {h : zH} {A : Nat → Prop} {u0 : TS} (hd : va_D A (wT κ h u0)) : zDT κ h := fun u => hd.move rfl (fun _ hq => hq)
theorem zDM.of {κ : zK} {h : zG} {A : Nat → Prop} {u0 : MS} (hd : va_D A (wM κ h u0)) : zDM κ h := fun u => hd.move rfl (fun _ hq => hq)
section ZF
variable {σ : Type} {g : zE} {κ : zK} {hs : List Nat} {ω : σ → va_W} {Φ : σ → Option Value → Prop} {cc : ByteArray} {nL : Nat} {own : String} {ret : Option FieldType} {rm : Room} {u : σ} {lv : List (Nat × Value)} {pc : Nat} {st : List Value}
theorem z_get {ref C : String} {T : u_T} {N ci idx a k : Nat} {fs : List Value} {v : Value} (X : zC g κ hs ω cc nL own ret rm) (q0 : Nat) (he : (ω u)[q0]? = some (a, .inr (ci, fs))) (hc : vwCl[ci]? = some (C, T, N)) (hin : ∀ w ∈ u_ws C T N, w ∈ zT) (hk : k < N) (href : ref = (T k).1) (hlink : Cond.fieldLink own idx ref (T k).2.1 (T k).2.2.1 ∈ zT) (hv : fs[k]? = some v) (d : decode cc pc = .ok (.getfield idx, 3)) (kk : zJ g κ hs ω Φ nL u lv (pc + 3) (v :: st)) : zJ g κ hs ω Φ nL u lv pc (.ref a :: st) := fun H locs ls hP hS hl => va_get X.1.1 X.1.2.1 X.1.2.2.2.2 hin X.1.2.2.2.1 X.2.2.2.1 hP q0 he hc k hk (X.1.2.2.2.2 _ hlink) (fun _ h9 => by rw [href]; exact h9) hv d (kk H locs ls hP hS hl)
theorem z_getN {ref C host : String} {T : u_T} {N ci idx a k : Nat} {fs : List Value} {v : Value} (X : zC g κ hs ω cc nL own ret rm) (q0 : Nat) (he : (ω u)[q0]? = some (a, .inr (ci, fs))) (hc : vwCl[ci]? = some (C, T, N)) (hin : ∀ w ∈ u_ws C T N, w ∈ zT) (hk : k < N) (href : ref = (T k).1) (hlink : ∀ U, zN U → va_Nw (.fieldLinkNest own idx ref (T k).2.1 (T k).2.2.1 host) U) (hv : fs[k]? = some v) (d : decode cc pc = .ok (.getfield idx, 3)) (kk : zJ g κ hs ω Φ nL u lv (pc + 3) (v :: st)) : zJ g κ hs ω Φ nL u lv pc (.ref a :: st) := fun H locs ls hP hS hl => va_getN X.1.1 X.1.2.1 X.1.2.2.2.2 hin X.1.2.2.2.1 X.2.2.2.1 hP q0 he hc k hk (va_Nw.use rfl (hlink _ X.2.2.2.2.1)) (fun _ h9 => by rw [href]; exact h9) hv d (kk H locs ls hP hS hl)
theorem z_put {ref C : String} {T : u_T} {ty0 : Nat → FieldType} {N ci idx a k : Nat} {fs : List Value} {v : Value} {ty : FieldType} {u1 : σ} (X : zC g κ hs ω cc nL own ret rm) (q0 : Nat) (he : (ω u)[q0]? = some (a, .inr (ci, fs))) (hc : vwCl[ci]? = some (C, T, N)) (hin : ∀ w ∈ u_ws C T N, w ∈ zT) (hty : ∀ k, k < N → parseFieldDescriptor (T k).2.2.1 = some (ty0 k)) (hnm : ∀ a, a < N → ∀ b, b < N → a ≠ b → (T a).2.1 ≠ (T b).2.1) (hk : k < N) (href : ref = (T k).1) (hlink : Cond.fieldLink own idx ref (T k).2.1 (T k).2.2.1 ∈ zT) (hfin : (T k).2.2.2 = false) (hd : parseFieldDescriptor (T k).2.2.1 = some ty) (hn : narrow ty v = v) (hfit : fits ty v = true) (hlf : k < fs.length) (hw : (ω u).set q0 (a, .inr (ci, fs.set k v)) = ω u1) (d : decode cc pc = .ok (.putfield idx, 3)) (kk : zJ g κ hs ω Φ nL u1 lv (pc + 3) st) : zJ g κ hs ω Φ nL u lv pc (v :: .ref a :: st) := fun H locs ls hP hS hl => va_put X.1.1 X.1.2.1 X.1.2.2.2.2 hin ty0 hty hnm X.1.2.2.2.1 X.2.2.2.1 hP (X.2.2.2.2.2.2 u) hS q0 he hc k hk (X.1.2.2.2.2 _ hlink) (fun _ h9 => by rw [href]; exact h9) hfin hd hn hfit hlf d (fun H1 locs1 hP1 _ hS1 => kk H1 locs1 ls (hw ▸ hP1) hS1 hl)
theorem z_putN {ref C host : String} {T : u_T} {ty0 : Nat → FieldType} {N ci idx a k : Nat} {fs : List Value} {v : Value} {ty : FieldType} {u1 : σ} (X : zC g κ hs ω cc nL own ret rm) (q0 : Nat) (he : (ω u)[q0]? = some (a, .inr (ci, fs))) (hc : vwCl[ci]? = some (C, T, N)) (hin : ∀ w ∈ u_ws C T N, w ∈ zT) (hty : ∀ k, k < N → parseFieldDescriptor (T k).2.2.1 = some (ty0 k)) (hnm : ∀ a, a < N → ∀ b, b < N → a ≠ b → (T a).2.1 ≠ (T b).2.1) (hk : k < N) (href : ref = (T k).1) (hlink : ∀ U, zN U → va_Nw (.fieldLinkNest own idx ref (T k).2.1 (T k).2.2.1 host) U) (hfin : (T k).2.2.2 = false) (hd : parseFieldDescriptor (T k).2.2.1 = some ty) (hn : narrow ty v = v) (hfit : fits ty v = true) (hlf : k < fs.length) (hw : (ω u).set q0 (a, .inr (ci, fs.set k v)) = ω u1) (d : decode cc pc = .ok (.putfield idx, 3)) (kk : zJ g κ hs ω Φ nL u1 lv (pc + 3) st) : zJ g κ hs ω Φ nL u lv pc (v :: .ref a :: st) := fun H locs ls hP hS hl => va_putN X.1.1 X.1.2.1 X.1.2.2.2.2 hin ty0 hty hnm X.1.2.2.2.1 X.2.2.2.1 hP (X.2.2.2.2.2.2 u) hS q0 he hc k hk (va_Nw.use rfl (hlink _ X.2.2.2.2.1)) (fun _ h9 => by rw [href]; exact h9) hfin hd hn hfit hlf d (fun H1 locs1 hP1 _ hS1 => kk H1 locs1 ls (hw ▸ hP1) hS1 hl)
theorem z_iald {a n : Nat} {cA : ClassId} {f : Nat → Int32} {x : Int32} (X : zC g κ hs ω cc nL own ret rm) (q0 : Nat) (ha : (ω u)[q0]? = some (a, .inl (cA, n, .inl f))) (ht : (zty κ)[0]? = some (cA, .int)) (hin : vp_in x n) (d : decode cc pc = .ok (.iaload, 1)) (kk : zJ g κ hs ω Φ nL u lv (pc + 1) (.int (f x.toNatClampNeg) :: st)) : zJ g κ hs ω Φ nL u lv pc (.int x :: .ref a :: st) := fun H locs ls hP hS hl => va_iald X.1.1 X.1.2.1 X.2.2.2.1 hP q0 0 ha ht hin d (kk H locs ls hP hS hl)
theorem z_lald {a n : Nat} {cA : ClassId} {f : Nat → Int64} {x : Int32} (X : zC g κ hs ω cc nL own ret rm) (q0 : Nat) (ha : (ω u)[q0]? = some (a, .inl (cA, n, .inr (.inl f)))) (ht : (zty κ)[1]? = some (cA, .long)) (hin : vp_in x n) (d : decode cc pc = .ok (.laload, 1)) (kk : zJ g κ hs ω Φ nL u lv (pc + 1) (.long (f x.toNatClampNeg) :: st)) : zJ g κ hs ω Φ nL u lv pc (.int x :: .ref a :: st) := fun H locs ls hP hS hl => va_lald X.1.1 X.1.2.1 X.2.2.2.1 hP q0 1 ha ht hin d (kk H locs ls hP hS hl)
theorem z_zald {a n : Nat} {cA : ClassId} {f : Nat → Int32} {x : Int32} (X : zC g κ hs ω cc nL own ret rm) (q0 : Nat) (ha : (ω u)[q0]? = some (a, .inl (cA, n, .inl f))) (ht : (zty κ)[2]? = some (cA, .boolean)) (hin : vp_in x n) (d : decode cc pc = .ok (.baload, 1)) (kk : zJ g κ hs ω Φ nL u lv (pc + 1) (.int (f x.toNatClampNeg) :: st)) : zJ g κ hs ω Φ nL u lv pc (.int x :: .ref a :: st) := fun H locs ls hP hS hl => va_zald X.1.1 X.1.2.1 X.2.2.2.1 hP q0 2 ha ht hin d (kk H locs ls hP hS hl)
theorem z_iast {a n : Nat} {cA : ClassId} {f : Nat → Int32} {x y : Int32} {u1 : σ} (X : zC g κ hs ω cc nL own ret rm) (q0 : Nat) (ha : (ω u)[q0]? = some (a, .inl (cA, n, .inl f))) (ht : (zty κ)[0]? = some (cA, .int)) (hin : vp_in x n) (hw : (ω u).set q0 (a, .inl (cA, n, .inl (upd f x.toNatClampNeg y))) = ω u1) (d : decode cc pc = .ok (.iastore, 1)) (kk : zJ g κ hs ω Φ nL u1 lv (pc + 1) st) : zJ g κ hs ω Φ nL u lv pc (.int y :: .int x :: .ref a :: st) := fun H locs ls hP hS hl => va_iast X.1.1 X.1.2.1 X.2.2.2.1 hP (X.2.2.2.2.2.2 u) hS q0 0 ha ht hin d (fun H1 locs1 hP1 _ hS1 => kk H1 locs1 ls (hw ▸ hP1) hS1 hl)
theorem z_last {a n : Nat} {cA : ClassId} {f : Nat → Int64} {x : Int32} {y : Int64} {u1 : σ} (X : zC g κ hs ω cc nL own ret rm) (q0 : Nat) (ha : (ω u)[q0]? = some (a, .inl (cA, n, .inr (.inl f)))) (ht : (zty κ)[1]? = some (cA, .long)) (hin : vp_in x n) (hw : (ω u).set q0 (a, .inl (cA, n, .inr (.inl (vp_updL f x.toNatClampNeg y)))) = ω u1) (d : decode cc pc = .ok (.lastore, 1)) (kk : zJ g κ hs ω Φ nL u1 lv (pc + 1) st) : zJ g κ hs ω Φ nL u lv pc (.long y :: .int x :: .ref a :: st) := fun H locs ls hP hS hl => va_last X.1.1 X.1.2.1 X.2.2.2.1 hP (X.2.2.2.2.2.2 u) hS q0 1 ha ht hin d (fun H1 locs1 hP1 _ hS1 => kk H1 locs1 ls (hw ▸ hP1) hS1 hl)
theorem z_zast {a n : Nat} {cA : ClassId} {f : Nat → Int32} {x y : Int32} {u1 : σ} (X : zC g κ hs ω cc nL own ret rm) (q0 : Nat) (ha : (ω u)[q0]? = some (a, .inl (cA, n, .inl f))) (ht : (zty κ)[2]? = some (cA, .boolean)) (hin : vp_in x n) (hw : (ω u).set q0 (a, .inl (cA, n, .inl (upd f x.toNatClampNeg (vp_nar .boolean y)))) = ω u1) (d : decode cc pc = .ok (.bastore, 1)) (kk : zJ g κ hs ω Φ nL u1 lv (pc + 1) st) : zJ g κ hs ω Φ nL u lv pc (.int y :: .int x :: .ref a :: st) := fun H locs ls hP hS hl => va_zast X.1.1 X.1.2.1 X.2.2.2.1 hP (X.2.2.2.2.2.2 u) hS q0 2 ha ht hin d (fun H1 locs1 hP1 _ hS1 => kk H1 locs1 ls (hw ▸ hP1) hS1 hl)
theorem z_alen {a : Nat} {cA : ClassId} {x : vp_A} {ty : FieldType} {v : Int32} (X : zC g κ hs ω cc nL own ret rm) (q0 t0 : Nat) (ha : (ω u)[q0]? = some (a, .inl (cA, x))) (ht : (zty κ)[t0]? = some (cA, ty)) (hv : Int32.ofNat x.1 = v) (d : decode cc pc = .ok (.arraylength, 1)) (kk : zJ g κ hs ω Φ nL u lv (pc + 1) (.int v :: st)) : zJ g κ hs ω Φ nL u lv pc (.ref a :: st) := fun H locs ls hP hS hl => va_alen X.1.1 X.1.2.1 X.2.2.2.1 hP q0 t0 ha ht hv d (kk H locs ls hP hS hl)
end ZF
section ZG
variable {g : zE} {κ : zK} {cc : ByteArray} {nL : Nat} {ret : Option FieldType} {rm : Room} {lv : List (Nat × Value)} {pc : Nat} {st : List Value}
theorem gf_X3_9 {h : zH} {u : TS} {Φ : TS → Option Value → Prop} (X : zC g κ (hsT h) (wT κ h) cc nL RX3 ret rm) (d : decode cc pc = .ok (.getfield 9, 3)) (k : zJ g κ (hsT h) (wT κ h) Φ nL u lv (pc + 3) (.ref h.2.2.1 :: st)) : zJ g κ (hsT h) (wT κ h) Φ nL u lv pc (.ref h.2.1 :: st) := z_get X 1 (k := 0) rfl rfl us_X3 (by decide) rfl fl_X3_9 rfl d k
theorem gf_X3_21 {h : zH} {u : TS} {Φ : TS → Option Value → Prop} (X : zC g κ (hsT h) (wT κ h) cc nL RX3 ret rm) (d : decode cc pc = .ok (.getfield 21, 3)) (k : zJ g κ (hsT h) (wT κ h) Φ nL u lv (pc + 3) (.int (u.1.2.1) :: st)) : zJ g κ (hsT h) (wT κ h) Φ nL u lv pc (.ref h.2.1 :: st) := z_get X 1 (k := 1) rfl rfl us_X3 (by decide) rfl fl_X3_21 rfl d k
theorem pf_X3_21 {h : zH} {u : TS} {Φ : TS → Option Value → Prop} {x : Int32} {P : TS → Prop} (X : zC g κ (hsT h) (wT κ h) cc nL RX3 ret rm) (d : decode cc pc = .ok (.putfield 21, 3)) (H : zlet (sN u.1 x, u.2) P) (k : ∀ u1, P u1 → zJ g κ (hsT h) (wT κ h) Φ nL u1 lv (pc + 3) st) : zJ g κ (hsT h) (wT κ h) Φ nL u lv pc (.int x :: .ref h.2.1 :: st) := z_put X 1 (k := 1) (ty := .int) rfl rfl us_X3 tyX3_ok nmX3 (by decide) rfl fl_X3_21 rfl (by decide +kernel) rfl rfl (Nat.le_of_ble_eq_true rfl) rfl d (k _ H)
theorem gf_X0_44 {h : zH} {u : TS} {Φ : TS → Option Value → Prop} (X : zC g κ (hsT h) (wT κ h) cc nL RX0 ret rm) (d : decode cc pc = .ok (.getfield 44, 3)) (k : zJ g κ (hsT h) (wT κ h) Φ nL u lv (pc + 3) (.int (u.1.2.1) :: st)) : zJ g κ (hsT h) (wT κ h) Φ nL u lv pc (.ref h.2.1 :: st) := z_getN X 1 (k := 1) rfl rfl us_X3 (by decide) rfl (fun _ hN => hN.1) rfl d k
theorem pf_X0_44 {h : zH} {u : TS} {Φ : TS → Option Value → Prop} {x : Int32} {P : TS → Prop} (X : zC g κ (hsT h) (wT κ h) cc nL RX0 ret rm) (d : decode cc pc = .ok (.putfield 44, 3)) (H : zlet (sN u.1 x, u.2) P) (k : ∀ u1, P u1 → zJ g κ (hsT h) (wT κ h) Φ nL u1 lv (pc + 3) st) : zJ g κ (hsT h) (wT κ h) Φ nL u lv pc (.int x :: .ref h.2.1 :: st) := z_putN X 1 (k := 1) (ty := .int) rfl rfl us_X3 tyX3_ok nmX3 (by decide) rfl (fun _ hN => hN.1) rfl (by decide +kernel) rfl rfl (Nat.le_of_ble_eq_true rfl) rfl d (k _ H)
theorem gf_X4_98 {h : zH} {u : TS} {Φ : TS → Option Value → Prop} (X : zC g κ (hsT h) (wT κ h) cc nL RX4 ret rm) (d : decode cc pc = .ok (.getfield 98, 3)) (k : zJ g κ (hsT h) (wT κ h) Φ nL u lv (pc + 3) (.int (u.1.2.1) :: st)) : zJ g κ (hsT h) (wT κ h) Φ nL u lv pc (.ref h.2.1 :: st) := z_getN X 1 (k := 1) rfl rfl us_X3 (by decide) rfl (fun _ hN => hN.2.1) rfl d k
theorem pf_X4_98 {h : zH} {u : TS} {Φ : TS → Option Value → Prop} {x : Int32} {P : TS → Prop} (X : zC g κ (hsT h) (wT κ h) cc nL RX4 ret rm) (d : decode cc pc = .ok (.putfield 98, 3)) (H : zlet (sN u.1 x, u.2) P) (k : ∀ u1, P u1 → zJ g κ (hsT h) (wT κ h) Φ nL u1 lv (pc + 3) st) : zJ g κ (hsT h) (wT κ h) Φ nL u lv pc (.int x :: .ref h.2.1 :: st) := z_putN X 1 (k := 1) (ty := .int) rfl rfl us_X3 tyX3_ok nmX3 (by decide) rfl (fun _ hN => hN.2.1) rfl (by decide +kernel) rfl rfl (Nat.le_of_ble_eq_true rfl) rfl d (k _ H)
theorem gf_X2_15 {h : zH} {u : TS} {Φ : TS → Option Value → Prop} (X : zC g κ (hsT h) (wT κ h) cc nL RX2 ret rm) (d : decode cc pc = .ok (.getfield 15, 3)) (k : zJ g κ (hsT h) (wT κ h) Φ nL u lv (pc + 3) (.ref h.2.1 :: st)) : zJ g κ (hsT h) (wT κ h) Φ nL u lv pc (.ref h.2.2.2.1 :: st) := z_get X 3 (k := 0) rfl rfl us_X2 (by decide) rfl fl_X2_15 rfl d k
theorem gf_X2_9 {h : zH} {u : TS} {Φ : TS → Option Value → Prop} (X : zC g κ (hsT h) (wT κ h) cc nL RX2 ret rm) (d : decode cc pc = .ok (.getfield 9, 3)) (k : zJ g κ (hsT h) (wT κ h) Φ nL u lv (pc + 3) (.ref h.2.2.2.2.1 :: st)) : zJ g κ (hsT h) (wT κ h) Φ nL u lv pc (.ref h.2.2.2.1 :: st) := z_get X 3 (k := 1) rfl rfl us_X2 (by decide) rfl fl_X2_9 rfl d k
theorem gf_X2_25 {h : zH} {u : TS} {Φ : TS → Option Value → Prop} (X : zC g κ (hsT h) (wT κ h) cc nL RX2 ret rm) (d : decode cc pc = .ok (.getfield 25, 3)) (k : zJ g κ (hsT h) (wT κ h) Φ nL u lv (pc + 3) (.int (u.1.2.2.2.1) :: st)) : zJ g κ (hsT h) (wT κ h) Φ nL u lv pc (.ref h.2.2.2.1 :: st) := z_get X 3 (k := 2) rfl rfl us_X2 (by decide) rfl fl_X2_25 rfl d k
theorem pf_X2_25 {h : zH} {u : TS} {Φ : TS → Option Value → Prop} {x : Int32} {P : TS → Prop} (X : zC g κ (hsT h) (wT κ h) cc nL RX2 ret rm) (d : decode cc pc = .ok (.putfield 25, 3)) (H : zlet (sMv u.1 x, u.2) P) (k : ∀ u1, P u1 → zJ g κ (hsT h) (wT κ h) Φ nL u1 lv (pc + 3) st) : zJ g κ (hsT h) (wT κ h) Φ nL u lv pc (.int x :: .ref h.2.2.2.1 :: st) := z_put X 3 (k := 2) (ty := .int) rfl rfl us_X2 tyX2_ok nmX2 (by decide) rfl fl_X2_25 rfl (by decide +kernel) rfl rfl (Nat.le_of_ble_eq_true rfl) rfl d (k _ H)
theorem gf_X4_149 {h : zH} {u : TS} {Φ : TS → Option Value → Prop} (X : zC g κ (hsT h) (wT κ h) cc nL RX4 ret rm) (d : decode cc pc = .ok (.getfield 149, 3)) (k : zJ g κ (hsT h) (wT κ h) Φ nL u lv (pc + 3) (.int (u.1.2.2.2.1) :: st)) : zJ g κ (hsT h) (wT κ h) Φ nL u lv pc (.ref h.2.2.2.1 :: st) := z_getN X 3 (k := 2) rfl rfl us_X2 (by decide) rfl (fun _ hN => hN.2.2.1) rfl d k
theorem pf_X4_149 {h : zH} {u : TS} {Φ : TS → Option Value → Prop} {x : Int32} {P : TS → Prop} (X : zC g κ (hsT h) (wT κ h) cc nL RX4 ret rm) (d : decode cc pc = .ok (.putfield 149, 3)) (H : zlet (sMv u.1 x, u.2) P) (k : ∀ u1, P u1 → zJ g κ (hsT h) (wT κ h) Φ nL u1 lv (pc + 3) st) : zJ g κ (hsT h) (wT κ h) Φ nL u lv pc (.int x :: .ref h.2.2.2.1 :: st) := z_putN X 3 (k := 2) (ty := .int) rfl rfl us_X2 tyX2_ok nmX2 (by decide) rfl (fun _ hN => hN.2.2.1) rfl (by decide +kernel) rfl rfl (Nat.le_of_ble_eq_true rfl) rfl d (k _ H)
theorem gf_X0_15 {h : zH} {u : TS} {Φ : TS → Option Value → Prop} (X : zC g κ (hsT h) (wT κ h) cc nL RX0 ret rm) (d : decode cc pc = .ok (.getfield 15, 3)) (k : zJ g κ (hsT h) (wT κ h) Φ nL u lv (pc + 3) (.ref h.2.1 :: st)) : zJ g κ (hsT h) (wT κ h) Φ nL u lv pc (.ref h.2.2.2.2.2.1 :: st) := z_get X 5 (k := 0) rfl rfl us_X0 (by decide) rfl fl_X0_15 rfl d k
theorem gf_X0_19 {h : zH} {u : TS} {Φ : TS → Option Value → Prop} (X : zC g κ (hsT h) (wT κ h) cc nL RX0 ret rm) (d : decode cc pc = .ok (.getfield 19, 3)) (k : zJ g κ (hsT h) (wT κ h) Φ nL u lv (pc + 3) (.ref h.2.2.2.1 :: st)) : zJ g κ (hsT h) (wT κ h) Φ nL u lv pc (.ref h.2.2.2.2.2.1 :: st) := z_get X 5 (k := 1) rfl rfl us_X0 (by decide) rfl fl_X0_19 rfl d k
theorem gf_X0_9 {h : zH} {u : TS} {Φ : TS → Option Value → Prop} (X : zC g κ (hsT h) (wT κ h) cc nL RX0 ret rm) (d : decode cc pc = .ok (.getfield 9, 3)) (k : zJ g κ (hsT h) (wT κ h) Φ nL u lv (pc + 3) (.ref h.2.2.2.2.2.2 :: st)) : zJ g κ (hsT h) (wT κ h) Φ nL u lv pc (.ref h.2.2.2.2.2.1 :: st) := z_get X 5 (k := 2) rfl rfl us_X0 (by decide) rfl fl_X0_9 rfl d k
theorem gf_X0_29 {h : zH} {u : TS} {Φ : TS → Option Value → Prop} (X : zC g κ (hsT h) (wT κ h) cc nL RX0 ret rm) (d : decode cc pc = .ok (.getfield 29, 3)) (k : zJ g κ (hsT h) (wT κ h) Φ nL u lv (pc + 3) (.int (u.1.2.2.2.2.2.2) :: st)) : zJ g κ (hsT h) (wT κ h) Φ nL u lv pc (.ref h.2.2.2.2.2.1 :: st) := z_get X 5 (k := 3) rfl rfl us_X0 (by decide) rfl fl_X0_29 rfl d k
theorem pf_X0_29 {h : zH} {u : TS} {Φ : TS → Option Value → Prop} {x : Int32} {P : TS → Prop} (X : zC g κ (hsT h) (wT κ h) cc nL RX0 ret rm) (d : decode cc pc = .ok (.putfield 29, 3)) (H : zlet (sWa u.1 x, u.2) P) (k : ∀ u1, P u1 → zJ g κ (hsT h) (wT κ h) Φ nL u1 lv (pc + 3) st) : zJ g κ (hsT h) (wT κ h) Φ nL u lv pc (.int x :: .ref h.2.2.2.2.2.1 :: st) := z_put X 5 (k := 3) (ty := .int) rfl rfl us_X0 tyX0_ok nmX0 (by decide) rfl fl_X0_29 rfl (by decide +kernel) rfl rfl (Nat.le_of_ble_eq_true rfl) rfl d (k _ H)
theorem gf_X4_126 {h : zH} {u : TS} {Φ : TS → Option Value → Prop} (X : zC g κ (hsT h) (wT κ h) cc nL RX4 ret rm) (d : decode cc pc = .ok (.getfield 126, 3)) (k : zJ g κ (hsT h) (wT κ h) Φ nL u lv (pc + 3) (.int (u.1.2.2.2.2.2.2) :: st)) : zJ g κ (hsT h) (wT κ h) Φ nL u lv pc (.ref h.2.2.2.2.2.1 :: st) := z_getN X 5 (k := 3) rfl rfl us_X0 (by decide) rfl (fun _ hN => hN.2.2.2.1) rfl d k
theorem pf_X4_126 {h : zH} {u : TS} {Φ : TS → Option Value → Prop} {x : Int32} {P : TS → Prop} (X : zC g κ (hsT h) (wT κ h) cc nL RX4 ret rm) (d : decode cc pc = .ok (.putfield 126, 3)) (H : zlet (sWa u.1 x, u.2) P) (k : ∀ u1, P u1 → zJ g κ (hsT h) (wT κ h) Φ nL u1 lv (pc + 3) st) : zJ g κ (hsT h) (wT κ h) Φ nL u lv pc (.int x :: .ref h.2.2.2.2.2.1 :: st) := z_putN X 5 (k := 3) (ty := .int) rfl rfl us_X0 tyX0_ok nmX0 (by decide) rfl (fun _ hN => hN.2.2.2.1) rfl (by decide +kernel) rfl rfl (Nat.le_of_ble_eq_true rfl) rfl d (k _ H)
theorem gf_X4_12 {h : zH} {u : TS} {Φ : TS → Option Value → Prop} (X : zC g κ (hsT h) (wT κ h) cc nL RX4 ret rm) (d : decode cc pc = .ok (.getfield 12, 3)) (k : zJ g κ (hsT h) (wT κ h) Φ nL u lv (pc + 3) (.ref h.2.1 :: st)) : zJ g κ (hsT h) (wT κ h) Φ nL u lv pc (.ref h.1 :: st) := z_get X 0 (k := 0) rfl rfl us_X4 (by decide) rfl fl_X4_12 rfl d k
theorem gf_X4_21 {h : zH} {u : TS} {Φ : TS → Option Value → Prop} (X : zC g κ (hsT h) (wT κ h) cc nL RX4 ret rm) (d : decode cc pc = .ok (.getfield 21, 3)) (k : zJ g κ (hsT h) (wT κ h) Φ nL u lv (pc + 3) (.ref h.2.2.2.1 :: st)) : zJ g κ (hsT h) (wT κ h) Φ nL u lv pc (.ref h.1 :: st) := z_get X 0 (k := 1) rfl rfl us_X4 (by decide) rfl fl_X4_21 rfl d k
theorem gf_X4_30 {h : zH} {u : TS} {Φ : TS → Option Value → Prop} (X : zC g κ (hsT h) (wT κ h) cc nL RX4 ret rm) (d : decode cc pc = .ok (.getfield 30, 3)) (k : zJ g κ (hsT h) (wT κ h) Φ nL u lv (pc + 3) (.ref h.2.2.2.2.2.1 :: st)) : zJ g κ (hsT h) (wT κ h) Φ nL u lv pc (.ref h.1 :: st) := z_get X 0 (k := 2) rfl rfl us_X4 (by decide) rfl fl_X4_30 rfl d k
theorem gf_X4_42 {h : zH} {u : TS} {Φ : TS → Option Value → Prop} (X : zC g κ (hsT h) (wT κ h) cc nL RX4 ret rm) (d : decode cc pc = .ok (.getfield 42, 3)) (k : zJ g κ (hsT h) (wT κ h) Φ nL u lv (pc + 3) (.int (u.1.2.2.2.2.2.1) :: st)) : zJ g κ (hsT h) (wT κ h) Φ nL u lv pc (.ref h.1 :: st) := z_get X 0 (k := 3) rfl rfl us_X4 (by decide) rfl fl_X4_42 rfl d k
theorem pf_X4_42 {h : zH} {u : TS} {Φ : TS → Option Value → Prop} {x : Int32} {P : TS → Prop} (X : zC g κ (hsT h) (wT κ h) cc nL RX4 ret rm) (hb : narrow .boolean (.int x) = .int x ∧ fits .boolean (.int x) = true) (d : decode cc pc = .ok (.putfield 42, 3)) (H : zlet (sSp u.1 x, u.2) P) (k : ∀ u1, P u1 → zJ g κ (hsT h) (wT κ h) Φ nL u1 lv (pc + 3) st) : zJ g κ (hsT h) (wT κ h) Φ nL u lv pc (.int x :: .ref h.1 :: st) := z_put X 0 (k := 3) (ty := .boolean) rfl rfl us_X4 tyX4_ok nmX4 (by decide) rfl fl_X4_42 rfl (by decide +kernel) hb.1 hb.2 (Nat.le_of_ble_eq_true rfl) rfl d (k _ H)
theorem gf_X4_152 {h : zH} {u : TS} {Φ : TS → Option Value → Prop} (X : zC g κ (hsT h) (wT κ h) cc nL RX4 ret rm) (d : decode cc pc = .ok (.getfield 152, 3)) (k : zJ g κ (hsT h) (wT κ h) Φ nL u lv (pc + 3) (.int (u.1.2.2.2.2.1) :: st)) : zJ g κ (hsT h) (wT κ h) Φ nL u lv pc (.ref h.1 :: st) := z_get X 0 (k := 4) rfl rfl us_X4 (by decide) rfl fl_X4_152 rfl d k
theorem pf_X4_152 {h : zH} {u : TS} {Φ : TS → Option Value → Prop} {x : Int32} {P : TS → Prop} (X : zC g κ (hsT h) (wT κ h) cc nL RX4 ret rm) (d : decode cc pc = .ok (.putfield 152, 3)) (H : zlet (sRf u.1 x, u.2) P) (k : ∀ u1, P u1 → zJ g κ (hsT h) (wT κ h) Φ nL u1 lv (pc + 3) st) : zJ g κ (hsT h) (wT κ h) Φ nL u lv pc (.int x :: .ref h.1 :: st) := z_put X 0 (k := 4) (ty := .int) rfl rfl us_X4 tyX4_ok nmX4 (by decide) rfl fl_X4_152 rfl (by decide +kernel) rfl rfl (Nat.le_of_ble_eq_true rfl) rfl d (k _ H)
theorem gf_X5_7 {h : zG} {u : MS} {Φ : MS → Option Value → Prop} (X : zC g κ (hsM h) (wM κ h) cc nL RX5 ret rm) (d : decode cc pc = .ok (.getfield 7, 3)) (k : zJ g κ (hsM h) (wM κ h) Φ nL u lv (pc + 3) (.ref h.2.1 :: st)) : zJ g κ (hsM h) (wM κ h) Φ nL u lv pc (.ref h.1 :: st) := z_get X 0 (k := 0) rfl rfl us_X5 (by decide) rfl fl_X5_7 rfl d k
theorem gf_X5_32 {h : zG} {u : MS} {Φ : MS → Option Value → Prop} (X : zC g κ (hsM h) (wM κ h) cc nL RX5 ret rm) (d : decode cc pc = .ok (.getfield 32, 3)) (k : zJ g κ (hsM h) (wM κ h) Φ nL u lv (pc + 3) (.int (u.1.2.1) :: st)) : zJ g κ (hsM h) (wM κ h) Φ nL u lv pc (.ref h.1 :: st) := z_get X 0 (k := 1) rfl rfl us_X5 (by decide) rfl fl_X5_32 rfl d k
theorem pf_X5_32 {h : zG} {u : MS} {Φ : MS → Option Value → Prop} {x : Int32} {P : MS → Prop} (X : zC g κ (hsM h) (wM κ h) cc nL RX5 ret rm) (d : decode cc pc = .ok (.putfield 32, 3)) (H : zlet (sN u.1 x, u.2) P) (k : ∀ u1, P u1 → zJ g κ (hsM h) (wM κ h) Φ nL u1 lv (pc + 3) st) : zJ g κ (hsM h) (wM κ h) Φ nL u lv pc (.int x :: .ref h.1 :: st) := z_put X 0 (k := 1) (ty := .int) rfl rfl us_X5 tyX5_ok nmX5 (by decide) rfl fl_X5_32 rfl (by decide +kernel) rfl rfl (Nat.le_of_ble_eq_true rfl) rfl d (k _ H)
theorem gf_X5_13 {h : zG} {u : MS} {Φ : MS → Option Value → Prop} (X : zC g κ (hsM h) (wM κ h) cc nL RX5 ret rm) (d : decode cc pc = .ok (.getfield 13, 3)) (k : zJ g κ (hsM h) (wM κ h) Φ nL u lv (pc + 3) (.ref h.2.2.1 :: st)) : zJ g κ (hsM h) (wM κ h) Φ nL u lv pc (.ref h.1 :: st) := z_get X 0 (k := 2) rfl rfl us_X5 (by decide) rfl fl_X5_13 rfl d k
theorem gf_X5_46 {h : zG} {u : MS} {Φ : MS → Option Value → Prop} (X : zC g κ (hsM h) (wM κ h) cc nL RX5 ret rm) (d : decode cc pc = .ok (.getfield 46, 3)) (k : zJ g κ (hsM h) (wM κ h) Φ nL u lv (pc + 3) (.int (u.1.2.2.2.1) :: st)) : zJ g κ (hsM h) (wM κ h) Φ nL u lv pc (.ref h.1 :: st) := z_get X 0 (k := 3) rfl rfl us_X5 (by decide) rfl fl_X5_46 rfl d k
theorem pf_X5_46 {h : zG} {u : MS} {Φ : MS → Option Value → Prop} {x : Int32} {P : MS → Prop} (X : zC g κ (hsM h) (wM κ h) cc nL RX5 ret rm) (d : decode cc pc = .ok (.putfield 46, 3)) (H : zlet (sMv u.1 x, u.2) P) (k : ∀ u1, P u1 → zJ g κ (hsM h) (wM κ h) Φ nL u1 lv (pc + 3) st) : zJ g κ (hsM h) (wM κ h) Φ nL u lv pc (.int x :: .ref h.1 :: st) := z_put X 0 (k := 3) (ty := .int) rfl rfl us_X5 tyX5_ok nmX5 (by decide) rfl fl_X5_46 rfl (by decide +kernel) rfl rfl (Nat.le_of_ble_eq_true rfl) rfl d (k _ H)
theorem gf_X5_39 {h : zG} {u : MS} {Φ : MS → Option Value → Prop} (X : zC g κ (hsM h) (wM κ h) cc nL RX5 ret rm) (d : decode cc pc = .ok (.getfield 39, 3)) (k : zJ g κ (hsM h) (wM κ h) Φ nL u lv (pc + 3) (.int (u.1.2.2.2.2.1) :: st)) : zJ g κ (hsM h) (wM κ h) Φ nL u lv pc (.ref h.1 :: st) := z_get X 0 (k := 4) rfl rfl us_X5 (by decide) rfl fl_X5_39 rfl d k
theorem pf_X5_39 {h : zG} {u : MS} {Φ : MS → Option Value → Prop} {x : Int32} {P : MS → Prop} (X : zC g κ (hsM h) (wM κ h) cc nL RX5 ret rm) (d : decode cc pc = .ok (.putfield 39, 3)) (H : zlet (sRf u.1 x, u.2) P) (k : ∀ u1, P u1 → zJ g κ (hsM h) (wM κ h) Φ nL u1 lv (pc + 3) st) : zJ g κ (hsM h) (wM κ h) Φ nL u lv pc (.int x :: .ref h.1 :: st) := z_put X 0 (k := 4) (ty := .int) rfl rfl us_X5 tyX5_ok nmX5 (by decide) rfl fl_X5_39 rfl (by decide +kernel) rfl rfl (Nat.le_of_ble_eq_true rfl) rfl d (k _ H)
theorem gf_X5_35 {h : zG} {u : MS} {Φ : MS → Option Value → Prop} (X : zC g κ (hsM h) (wM κ h) cc nL RX5 ret rm) (d : decode cc pc = .ok (.getfield 35, 3)) (k : zJ g κ (hsM h) (wM κ h) Φ nL u lv (pc + 3) (.int (u.1.2.2.2.2.2.1) :: st)) : zJ g κ (hsM h) (wM κ h) Φ nL u lv pc (.ref h.1 :: st) := z_get X 0 (k := 5) rfl rfl us_X5 (by decide) rfl fl_X5_35 rfl d k
theorem pf_X5_35 {h : zG} {u : MS} {Φ : MS → Option Value → Prop} {x : Int32} {P : MS → Prop} (X : zC g κ (hsM h) (wM κ h) cc nL RX5 ret rm) (hb : narrow .boolean (.int x) = .int x ∧ fits .boolean (.int x) = true) (d : decode cc pc = .ok (.putfield 35, 3)) (H : zlet (sSp u.1 x, u.2) P) (k : ∀ u1, P u1 → zJ g κ (hsM h) (wM κ h) Φ nL u1 lv (pc + 3) st) : zJ g κ (hsM h) (wM κ h) Φ nL u lv pc (.int x :: .ref h.1 :: st) := z_put X 0 (k := 5) (ty := .boolean) rfl rfl us_X5 tyX5_ok nmX5 (by decide) rfl fl_X5_35 rfl (by decide +kernel) hb.1 hb.2 (Nat.le_of_ble_eq_true rfl) rfl d (k _ H)
theorem gf_X5_17 {h : zG} {u : MS} {Φ : MS → Option Value → Prop} (X : zC g κ (hsM h) (wM κ h) cc nL RX5 ret rm) (d : decode cc pc = .ok (.getfield 17, 3)) (k : zJ g κ (hsM h) (wM κ h) Φ nL u lv (pc + 3) (.int (u.1.2.2.2.2.2.2) :: st)) : zJ g κ (hsM h) (wM κ h) Φ nL u lv pc (.ref h.1 :: st) := z_get X 0 (k := 6) rfl rfl us_X5 (by decide) rfl fl_X5_17 rfl d k
theorem pf_X5_17 {h : zG} {u : MS} {Φ : MS → Option Value → Prop} {x : Int32} {P : MS → Prop} (X : zC g κ (hsM h) (wM κ h) cc nL RX5 ret rm) (d : decode cc pc = .ok (.putfield 17, 3)) (H : zlet (sWa u.1 x, u.2) P) (k : ∀ u1, P u1 → zJ g κ (hsM h) (wM κ h) Φ nL u1 lv (pc + 3) st) : zJ g κ (hsM h) (wM κ h) Φ nL u lv pc (.int x :: .ref h.1 :: st) := z_put X 0 (k := 6) (ty := .int) rfl rfl us_X5 tyX5_ok nmX5 (by decide) rfl fl_X5_17 rfl (by decide +kernel) rfl rfl (Nat.le_of_ble_eq_true rfl) rfl d (k _ H)
theorem gf_X5_21 {h : zG} {u : MS} {Φ : MS → Option Value → Prop} (X : zC g κ (hsM h) (wM κ h) cc nL RX5 ret rm) (d : decode cc pc = .ok (.getfield 21, 3)) (k : zJ g κ (hsM h) (wM κ h) Φ nL u lv (pc + 3) (.ref h.2.2.2.1 :: st)) : zJ g κ (hsM h) (wM κ h) Φ nL u lv pc (.ref h.1 :: st) := z_get X 0 (k := 7) rfl rfl us_X5 (by decide) rfl fl_X5_21 rfl d k
theorem gf_X5_25 {h : zG} {u : MS} {Φ : MS → Option Value → Prop} (X : zC g κ (hsM h) (wM κ h) cc nL RX5 ret rm) (d : decode cc pc = .ok (.getfield 25, 3)) (k : zJ g κ (hsM h) (wM κ h) Φ nL u lv (pc + 3) (.ref h.2.2.2.2 :: st)) : zJ g κ (hsM h) (wM κ h) Φ nL u lv pc (.ref h.1 :: st) := z_get X 0 (k := 8) rfl rfl us_X5 (by decide) rfl fl_X5_25 rfl d k
theorem ar_words {h : zH} {u : TS} {Φ : TS → Option Value → Prop} {own : String} {x : Int32} (X : zC g κ (hsT h) (wT κ h) cc nL own ret rm) (hin : vp_in x 2048) (d : decode cc pc = .ok (.laload, 1)) (k : zJ g κ (hsT h) (wT κ h) Φ nL u lv (pc + 1) (.long (u.1.1 x.toNatClampNeg) :: st)) : zJ g κ (hsT h) (wT κ h) Φ nL u lv pc (.int x :: .ref h.2.2.1 :: st) := z_lald X 2 rfl rfl hin d k
theorem aw_words {h : zH} {u : TS} {Φ : TS → Option Value → Prop} {own : String} {x : Int32} {y : Int64} {P : TS → Prop} (X : zC g κ (hsT h) (wT κ h) cc nL own ret rm) (hin : vp_in x 2048) (d : decode cc pc = .ok (.lastore, 1)) (H : zlet (sW u.1 (vp_updL u.1.1 x.toNatClampNeg y), u.2) P) (k : ∀ u1, P u1 → zJ g κ (hsT h) (wT κ h) Φ nL u1 lv (pc + 1) st) : zJ g κ (hsT h) (wT κ h) Φ nL u lv pc (.long y :: .int x :: .ref h.2.2.1 :: st) := z_last X 2 rfl rfl hin rfl d (k _ H)
theorem ar_firsts {h : zH} {u : TS} {Φ : TS → Option Value → Prop} {own : String} {x : Int32} (X : zC g κ (hsT h) (wT κ h) cc nL own ret rm) (hin : vp_in x 72) (d : decode cc pc = .ok (.iaload, 1)) (k : zJ g κ (hsT h) (wT κ h) Φ nL u lv (pc + 1) (.int (u.1.2.2.1 x.toNatClampNeg) :: st)) : zJ g κ (hsT h) (wT κ h) Φ nL u lv pc (.int x :: .ref h.2.2.2.2.1 :: st) := z_iald X 4 rfl rfl hin d k
theorem aw_firsts {h : zH} {u : TS} {Φ : TS → Option Value → Prop} {own : String} {x : Int32} {y : Int32} {P : TS → Prop} (X : zC g κ (hsT h) (wT κ h) cc nL own ret rm) (hin : vp_in x 72) (d : decode cc pc = .ok (.iastore, 1)) (H : zlet (sF u.1 (upd u.1.2.2.1 x.toNatClampNeg y), u.2) P) (k : ∀ u1, P u1 → zJ g κ (hsT h) (wT κ h) Φ nL u1 lv (pc + 1) st) : zJ g κ (hsT h) (wT κ h) Φ nL u lv pc (.int y :: .int x :: .ref h.2.2.2.2.1 :: st) := z_iast X 4 rfl rfl hin rfl d (k _ H)
theorem ar_marks {h : zH} {u : TS} {Φ : TS → Option Value → Prop} {own : String} {x : Int32} (X : zC g κ (hsT h) (wT κ h) cc nL own ret rm) (hin : vp_in x 2048) (d : decode cc pc = .ok (.iaload, 1)) (k : zJ g κ (hsT h) (wT κ h) Φ nL u lv (pc + 1) (.int (u.2 x.toNatClampNeg) :: st)) : zJ g κ (hsT h) (wT κ h) Φ nL u lv pc (.int x :: .ref h.2.2.2.2.2.2 :: st) := z_iald X 6 rfl rfl hin d k
theorem aw_marks {h : zH} {u : TS} {Φ : TS → Option Value → Prop} {own : String} {x : Int32} {y : Int32} {P : TS → Prop} (X : zC g κ (hsT h) (wT κ h) cc nL own ret rm) (hin : vp_in x 2048) (d : decode cc pc = .ok (.iastore, 1)) (H : zlet (u.1, upd u.2 x.toNatClampNeg y) P) (k : ∀ u1, P u1 → zJ g κ (hsT h) (wT κ h) Φ nL u1 lv (pc + 1) st) : zJ g κ (hsT h) (wT κ h) Φ nL u lv pc (.int y :: .int x :: .ref h.2.2.2.2.2.2 :: st) := z_iast X 6 rfl rfl hin rfl d (k _ H)
theorem ar_pool {h : zG} {u : MS} {Φ : MS → Option Value → Prop} {own : String} {x : Int32} (X : zC g κ (hsM h) (wM κ h) cc nL own ret rm) (hin : vp_in x 2048) (d : decode cc pc = .ok (.laload, 1)) (k : zJ g κ (hsM h) (wM κ h) Φ nL u lv (pc + 1) (.long (u.1.1 x.toNatClampNeg) :: st)) : zJ g κ (hsM h) (wM κ h) Φ nL u lv pc (.int x :: .ref h.2.1 :: st) := z_lald X 1 rfl rfl hin d k
theorem aw_pool {h : zG} {u : MS} {Φ : MS → Option Value → Prop} {own : String} {x : Int32} {y : Int64} {P : MS → Prop} (X : zC g κ (hsM h) (wM κ h) cc nL own ret rm) (hin : vp_in x 2048) (d : decode cc pc = .ok (.lastore, 1)) (H : zlet (sW u.1 (vp_updL u.1.1 x.toNatClampNeg y), u.2) P) (k : ∀ u1, P u1 → zJ g κ (hsM h) (wM κ h) Φ nL u1 lv (pc + 1) st) : zJ g κ (hsM h) (wM κ h) Φ nL u lv pc (.long y :: .int x :: .ref h.2.1 :: st) := z_last X 1 rfl rfl hin rfl d (k _ H)
theorem ar_first {h : zG} {u : MS} {Φ : MS → Option Value → Prop} {own : String} {x : Int32} (X : zC g κ (hsM h) (wM κ h) cc nL own ret rm) (hin : vp_in x 72) (d : decode cc pc = .ok (.iaload, 1)) (k : zJ g κ (hsM h) (wM κ h) Φ nL u lv (pc + 1) (.int (u.1.2.2.1 x.toNatClampNeg) :: st)) : zJ g κ (hsM h) (wM κ h) Φ nL u lv pc (.int x :: .ref h.2.2.1 :: st) := z_iald X 2 rfl rfl hin d k
theorem aw_first {h : zG} {u : MS} {Φ : MS → Option Value → Prop} {own : String} {x : Int32} {y : Int32} {P : MS → Prop} (X : zC g κ (hsM h) (wM κ h) cc nL own ret rm) (hin : vp_in x 72) (d : decode cc pc = .ok (.iastore, 1)) (H : zlet (sF u.1 (upd u.1.2.2.1 x.toNatClampNeg y), u.2) P) (k : ∀ u1, P u1 → zJ g κ (hsM h) (wM κ h) Φ nL u1 lv (pc + 1) st) : zJ g κ (hsM h) (wM κ h) Φ nL u lv pc (.int y :: .int x :: .ref h.2.2.1 :: st) := z_iast X 2 rfl rfl hin rfl d (k _ H)
theorem ar_met {h : zG} {u : MS} {Φ : MS → Option Value → Prop} {own : String} {x : Int32} (X : zC g κ (hsM h) (wM κ h) cc nL own ret rm) (hin : vp_in x 2049) (d : decode cc pc = .ok (.baload, 1)) (k : zJ g κ (hsM h) (wM κ h) Φ nL u lv (pc + 1) (.int (u.2.1 x.toNatClampNeg) :: st)) : zJ g κ (hsM h) (wM κ h) Φ nL u lv pc (.int x :: .ref h.2.2.2.1 :: st) := z_zald X 3 rfl rfl hin d k
theorem aw_met {h : zG} {u : MS} {Φ : MS → Option Value → Prop} {own : String} {x : Int32} {y : Int32} {P : MS → Prop} (X : zC g κ (hsM h) (wM κ h) cc nL own ret rm) (hin : vp_in x 2049) (d : decode cc pc = .ok (.bastore, 1)) (H : zlet (u.1, upd u.2.1 x.toNatClampNeg (vp_nar .boolean y), u.2.2) P) (k : ∀ u1, P u1 → zJ g κ (hsM h) (wM κ h) Φ nL u1 lv (pc + 1) st) : zJ g κ (hsM h) (wM κ h) Φ nL u lv pc (.int y :: .int x :: .ref h.2.2.2.1 :: st) := z_zast X 3 rfl rfl hin rfl d (k _ H)
theorem ar_begins {h : zG} {u : MS} {Φ : MS → Option Value → Prop} {own : String} {x : Int32} (X : zC g κ (hsM h) (wM κ h) cc nL own ret rm) (hin : vp_in x 2049) (d : decode cc pc = .ok (.baload, 1)) (k : zJ g κ (hsM h) (wM κ h) Φ nL u lv (pc + 1) (.int (u.2.2 x.toNatClampNeg) :: st)) : zJ g κ (hsM h) (wM κ h) Φ nL u lv pc (.int x :: .ref h.2.2.2.2 :: st) := z_zald X 4 rfl rfl hin d k
theorem aw_begins {h : zG} {u : MS} {Φ : MS → Option Value → Prop} {own : String} {x : Int32} {y : Int32} {P : MS → Prop} (X : zC g κ (hsM h) (wM κ h) cc nL own ret rm) (hin : vp_in x 2049) (d : decode cc pc = .ok (.bastore, 1)) (H : zlet (u.1, u.2.1, upd u.2.2 x.toNatClampNeg (vp_nar .boolean y)) P) (k : ∀ u1, P u1 → zJ g κ (hsM h) (wM κ h) Φ nL u1 lv (pc + 1) st) : zJ g κ (hsM h) (wM κ h) Φ nL u lv pc (.int y :: .int x :: .ref h.2.2.2.2 :: st) := z_zast X 4 rfl rfl hin rfl d (k _ H)
end ZG
theorem yy_X4_init : zY yX4_init cX4_init 1 none 0 := ⟨cd_X4_init, in_X4, by decide +kernel⟩
theorem yy_X3_init : zY yX3_init cX3_init 1 none 0 := ⟨cd_X3_init, in_X3, by decide +kernel⟩
theorem yy_X2_init : zY yX2_init cX2_init 2 none 1 := ⟨cd_X2_init, in_X2, by decide +kernel⟩
theorem yy_X0_init : zY yX0_init cX0_init 3 none 2 := ⟨cd_X0_init, in_X0, by decide +kernel⟩
theorem yy_X4_begin : zY yX4_begin cX4_begin 2 none 1 := ⟨cd_X4_begin, in_X4, by decide +kernel⟩
theorem yy_X3_clear : zY yX3_clear cX3_clear 2 none 1 := ⟨cd_X3_clear, in_X3, by decide +kernel⟩
theorem yy_J7_fill_d0a16 : zY yJ7_fill_d0a16 cJ7_fill_d0a16 5 none 2 := ⟨cd_J7_fill_d0a16, in_J7, by decide +kernel⟩
theorem yy_X2_clear : zY yX2_clear cX2_clear 1 none 0 := ⟨cd_X2_clear, in_X2, by decide +kernel⟩
theorem yy_J7_fill_53178 : zY yJ7_fill_53178 cJ7_fill_53178 4 none 2 := ⟨cd_J7_fill_53178, in_J7, by decide +kernel⟩
theorem yy_X4_makeFree : zY yX4_makeFree cX4_makeFree 3 none 2 := ⟨cd_X4_makeFree, in_X4, by decide +kernel⟩
theorem yy_X3_layHeader : zY yX3_layHeader cX3_layHeader 4 none 3 := ⟨cd_X3_layHeader, in_X3, by decide +kernel⟩
theorem yy_X3_lay : zY yX3_lay cX3_lay 4 none 2 := ⟨cd_X3_lay, in_X3, by decide +kernel⟩
theorem yy_X2_come : zY yX2_come cX2_come 5 none 1 := ⟨cd_X2_come, in_X2, by decide +kernel⟩
theorem yy_X3_bodyOf : zY yX3_bodyOf cX3_bodyOf 2 (some .int) 1 := ⟨cd_X3_bodyOf, in_X3, by decide +kernel⟩
theorem yy_X3_at : zY yX3_at cX3_at 2 (some .long) 1 := ⟨cd_X3_at, in_X3, by decide +kernel⟩
theorem yy_X1_ofBody : zY yX1_ofBody cX1_ofBody 2 (some .int) 1 := ⟨cd_X1_ofBody, in_X1, by decide +kernel⟩
theorem yy_X1_stepShift : zY yX1_stepShift cX1_stepShift 1 (some .int) 1 := ⟨cd_X1_stepShift, in_X1, by decide +kernel⟩
theorem yy_J6_numberOfLeadingZeros_0f7a4 : zY yJ6_numberOfLeadingZeros_0f7a4 cJ6_numberOfLeadingZeros_0f7a4 2 (some .int) 1 := ⟨cd_J6_numberOfLeadingZeros_0f7a4, in_J6, by decide +kernel⟩
theorem yy_X2_firstOf : zY yX2_firstOf cX2_firstOf 2 (some .int) 1 := ⟨cd_X2_firstOf, in_X2, by decide +kernel⟩
theorem yy_X2_layFirst : zY yX2_layFirst cX2_layFirst 3 none 2 := ⟨cd_X2_layFirst, in_X2, by decide +kernel⟩
theorem yy_X3_tellBehind : zY yX3_tellBehind cX3_tellBehind 5 none 1 := ⟨cd_X3_tellBehind, in_X3, by decide +kernel⟩
theorem yy_X3_behind : zY yX3_behind cX3_behind 2 (some .int) 1 := ⟨cd_X3_behind, in_X3, by decide +kernel⟩
theorem yy_X3_isFree : zY yX3_isFree cX3_isFree 2 (some .boolean) 1 := ⟨cd_X3_isFree, in_X3, by decide +kernel⟩
theorem yy_X2_forgetMoves : zY yX2_forgetMoves cX2_forgetMoves 1 none 0 := ⟨cd_X2_forgetMoves, in_X2, by decide +kernel⟩
theorem yy_X4_open : zY yX4_open cX4_open 2 (some .int) 1 := ⟨cd_X4_open, in_X4, by decide +kernel⟩
theorem yy_X4_alloc : zY yX4_alloc cX4_alloc 4 (some .int) 1 := ⟨cd_X4_alloc, in_X4, by decide +kernel⟩
theorem yy_X4_isWish : zY yX4_isWish cX4_isWish 1 (some .boolean) 1 := ⟨cd_X4_isWish, in_X4, by decide +kernel⟩
theorem yy_X4_bodyFor : zY yX4_bodyFor cX4_bodyFor 1 (some .int) 1 := ⟨cd_X4_bodyFor, in_X4, by decide +kernel⟩
theorem yy_X2_headerFor : zY yX2_headerFor cX2_headerFor 3 (some .int) 1 := ⟨cd_X2_headerFor, in_X2, by decide +kernel⟩
theorem yy_X1_ofWish : zY yX1_ofWish cX1_ofWish 2 (some .int) 1 := ⟨cd_X1_ofWish, in_X1, by decide +kernel⟩
theorem yy_X4_refuse : zY yX4_refuse cX4_refuse 1 (some .int) 0 := ⟨cd_X4_refuse, in_X4, by decide +kernel⟩
theorem yy_X4_take : zY yX4_take cX4_take 2 none 1 := ⟨cd_X4_take, in_X4, by decide +kernel⟩
theorem yy_X2_leave : zY yX2_leave cX2_leave 5 none 1 := ⟨cd_X2_leave, in_X2, by decide +kernel⟩
theorem yy_X4_cutTo : zY yX4_cutTo cX4_cutTo 5 none 2 := ⟨cd_X4_cutTo, in_X4, by decide +kernel⟩
theorem yy_X3_layBody : zY yX3_layBody cX3_layBody 3 none 2 := ⟨cd_X3_layBody, in_X3, by decide +kernel⟩
theorem yy_X4_release : zY yX4_release cX4_release 5 (some .int) 1 := ⟨cd_X4_release, in_X4, by decide +kernel⟩
theorem yy_X3_isAheadFree : zY yX3_isAheadFree cX3_isAheadFree 2 (some .boolean) 1 := ⟨cd_X3_isAheadFree, in_X3, by decide +kernel⟩
theorem yy_X3_freeAhead : zY yX3_freeAhead cX3_freeAhead 2 (some .int) 1 := ⟨cd_X3_freeAhead, in_X3, by decide +kernel⟩
theorem yy_X4_aligned : zY yX4_aligned cX4_aligned 6 (some .int) 2 := ⟨cd_X4_aligned, in_X4, by decide +kernel⟩
theorem yy_X4_isAlignment : zY yX4_isAlignment cX4_isAlignment 1 (some .boolean) 1 := ⟨cd_X4_isAlignment, in_X4, by decide +kernel⟩
theorem yy_X4_mostAhead : zY yX4_mostAhead cX4_mostAhead 1 (some .int) 1 := ⟨cd_X4_mostAhead, in_X4, by decide +kernel⟩
theorem yy_X4_alignedPlace : zY yX4_alignedPlace cX4_alignedPlace 3 (some .int) 2 := ⟨cd_X4_alignedPlace, in_X4, by decide +kernel⟩
theorem yy_X4_splitBefore : zY yX4_splitBefore cX4_splitBefore 3 none 2 := ⟨cd_X4_splitBefore, in_X4, by decide +kernel⟩
theorem yy_X4_free : zY yX4_free cX4_free 3 (some .int) 1 := ⟨cd_X4_free, in_X4, by decide +kernel⟩
theorem yy_X4_refusalOf : zY yX4_refusalOf cX4_refusalOf 2 (some .int) 1 := ⟨cd_X4_refusalOf, in_X4, by decide +kernel⟩
theorem yy_X4_isUsedPlace : zY yX4_isUsedPlace cX4_isUsedPlace 4 (some .boolean) 1 := ⟨cd_X4_isUsedPlace, in_X4, by decide +kernel⟩
theorem yy_X3_has : zY yX3_has cX3_has 2 (some .boolean) 1 := ⟨cd_X3_has, in_X3, by decide +kernel⟩
theorem yy_X4_resize : zY yX4_resize cX4_resize 7 (some .int) 2 := ⟨cd_X4_resize, in_X4, by decide +kernel⟩
theorem yy_X4_bodyWithBehind : zY yX4_bodyWithBehind cX4_bodyWithBehind 4 (some .int) 1 := ⟨cd_X4_bodyWithBehind, in_X4, by decide +kernel⟩
theorem yy_X4_joinBehind : zY yX4_joinBehind cX4_joinBehind 3 none 1 := ⟨cd_X4_joinBehind, in_X4, by decide +kernel⟩
theorem yy_X4_copyBody : zY yX4_copyBody cX4_copyBody 5 none 2 := ⟨cd_X4_copyBody, in_X4, by decide +kernel⟩
theorem yy_X4_grow : zY yX4_grow cX4_grow 4 (some .int) 1 := ⟨cd_X4_grow, in_X4, by decide +kernel⟩
theorem yy_X4_lastHeader : zY yX4_lastHeader cX4_lastHeader 3 (some .int) 0 := ⟨cd_X4_lastHeader, in_X4, by decide +kernel⟩
theorem yy_X4_size : zY yX4_size cX4_size 3 (some .int) 1 := ⟨cd_X4_size, in_X4, by decide +kernel⟩
theorem yy_X4_put : zY yX4_put cX4_put 6 (some .int) 3 := ⟨cd_X4_put, in_X4, by decide +kernel⟩
theorem yy_X4_word : zY yX4_word cX4_word 2 (some .long) 1 := ⟨cd_X4_word, in_X4, by decide +kernel⟩
theorem yy_X4_spoil : zY yX4_spoil cX4_spoil 4 (some .int) 2 := ⟨cd_X4_spoil, in_X4, by decide +kernel⟩
theorem yy_X4_check : zY yX4_check cX4_check 2 (some .int) 0 := ⟨cd_X4_check, in_X4, by decide +kernel⟩
theorem yy_X0_run : zY yX0_run cX0_run 3 (some .int) 0 := ⟨cd_X0_run, in_X0, by decide +kernel⟩
theorem yy_X0_readBlocks : zY yX0_readBlocks cX0_readBlocks 5 (some .int) 0 := ⟨cd_X0_readBlocks, in_X0, by decide +kernel⟩
theorem yy_X0_wrongOfBlock : zY yX0_wrongOfBlock cX0_wrongOfBlock 7 (some .int) 2 := ⟨cd_X0_wrongOfBlock, in_X0, by decide +kernel⟩
theorem yy_X0_tell : zY yX0_tell cX0_tell 3 (some .int) 2 := ⟨cd_X0_tell, in_X0, by decide +kernel⟩
theorem yy_X0_mark : zY yX0_mark cX0_mark 3 none 2 := ⟨cd_X0_mark, in_X0, by decide +kernel⟩
theorem yy_X0_readList : zY yX0_readList cX0_readList 6 (some .int) 1 := ⟨cd_X0_readList, in_X0, by decide +kernel⟩
theorem yy_X0_isLinked : zY yX0_isLinked cX0_isLinked 6 (some .boolean) 3 := ⟨cd_X0_isLinked, in_X0, by decide +kernel⟩
theorem yy_X0_markOf : zY yX0_markOf cX0_markOf 2 (some .int) 1 := ⟨cd_X0_markOf, in_X0, by decide +kernel⟩
theorem yy_X0_seekLost : zY yX0_seekLost cX0_seekLost 2 (some .int) 0 := ⟨cd_X0_seekLost, in_X0, by decide +kernel⟩
theorem yy_X4_where : zY yX4_where cX4_where 1 (some .int) 0 := ⟨cd_X4_where, in_X4, by decide +kernel⟩
theorem yy_X4_classOf : zY yX4_classOf cX4_classOf 3 (some .int) 2 := ⟨cd_X4_classOf, in_X4, by decide +kernel⟩
theorem yy_X4_listed : zY yX4_listed cX4_listed 3 (some .int) 2 := ⟨cd_X4_listed, in_X4, by decide +kernel⟩
theorem yy_X2_placeInList : zY yX2_placeInList cX2_placeInList 5 (some .int) 2 := ⟨cd_X2_placeInList, in_X2, by decide +kernel⟩
theorem yy_X4_bits : zY yX4_bits cX4_bits 2 (some .int) 1 := ⟨cd_X4_bits, in_X4, by decide +kernel⟩
theorem yy_X2_levelBits : zY yX2_levelBits cX2_levelBits 3 (some .int) 0 := ⟨cd_X2_levelBits, in_X2, by decide +kernel⟩
theorem yy_X2_stepBits : zY yX2_stepBits cX2_stepBits 4 (some .int) 1 := ⟨cd_X2_stepBits, in_X2, by decide +kernel⟩
theorem yy_X4_block : zY yX4_block cX4_block 4 (some .int) 2 := ⟨cd_X4_block, in_X4, by decide +kernel⟩
theorem yy_X4_headerOfBlock : zY yX4_headerOfBlock cX4_headerOfBlock 4 (some .int) 1 := ⟨cd_X4_headerOfBlock, in_X4, by decide +kernel⟩
theorem yy_X4_found : zY yX4_found cX4_found 3 (some .int) 1 := ⟨cd_X4_found, in_X4, by decide +kernel⟩
theorem yy_X4_count : zY yX4_count cX4_count 2 (some .int) 1 := ⟨cd_X4_count, in_X4, by decide +kernel⟩
theorem yy_X4_wordsOf : zY yX4_wordsOf cX4_wordsOf 5 (some .int) 1 := ⟨cd_X4_wordsOf, in_X4, by decide +kernel⟩
theorem yy_X4_blocksOf : zY yX4_blocksOf cX4_blocksOf 5 (some .int) 1 := ⟨cd_X4_blocksOf, in_X4, by decide +kernel⟩
theorem yy_X4_mostFree : zY yX4_mostFree cX4_mostFree 4 (some .int) 0 := ⟨cd_X4_mostFree, in_X4, by decide +kernel⟩
theorem yy_X5_init : zY yX5_init cX5_init 1 none 0 := ⟨cd_X5_init, in_X5, by decide +kernel⟩
theorem yy_X5_lay : zY yX5_lay cX5_lay 3 none 1 := ⟨cd_X5_lay, in_X5, by decide +kernel⟩
theorem yy_X5_lend : zY yX5_lend cX5_lend 6 none 3 := ⟨cd_X5_lend, in_X5, by decide +kernel⟩
theorem yy_X5_classIn : zY yX5_classIn cX5_classIn 2 (some .int) 1 := ⟨cd_X5_classIn, in_X5, by decide +kernel⟩
theorem yy_X5_behind : zY yX5_behind cX5_behind 3 (some .int) 1 := ⟨cd_X5_behind, in_X5, by decide +kernel⟩
theorem yy_X5_words : zY yX5_words cX5_words 2 (some .int) 1 := ⟨cd_X5_words, in_X5, by decide +kernel⟩
theorem yy_X5_tell : zY yX5_tell cX5_tell 3 none 2 := ⟨cd_X5_tell, in_X5, by decide +kernel⟩
theorem yy_X5_open : zY yX5_open cX5_open 2 (some .int) 1 := ⟨cd_X5_open, in_X5, by decide +kernel⟩
theorem yy_X5_in : zY yX5_in cX5_in 6 (some .boolean) 3 := ⟨cd_X5_in, in_X5, by decide +kernel⟩
theorem yy_X5_classOf : zY yX5_classOf cX5_classOf 3 (some .int) 2 := ⟨cd_X5_classOf, in_X5, by decide +kernel⟩
theorem yy_X5_wishIn : zY yX5_wishIn cX5_wishIn 2 (some .int) 1 := ⟨cd_X5_wishIn, in_X5, by decide +kernel⟩
theorem yy_X5_alloc : zY yX5_alloc cX5_alloc 3 (some .int) 1 := ⟨cd_X5_alloc, in_X5, by decide +kernel⟩
theorem yy_X5_lookFor : zY yX5_lookFor cX5_lookFor 3 (some .int) 1 := ⟨cd_X5_lookFor, in_X5, by decide +kernel⟩
theorem yy_X5_leave : zY yX5_leave cX5_leave 4 none 1 := ⟨cd_X5_leave, in_X5, by decide +kernel⟩
theorem yy_X5_least : zY yX5_least cX5_least 1 (some .int) 1 := ⟨cd_X5_least, in_X5, by decide +kernel⟩
theorem yy_X5_take : zY yX5_take cX5_take 6 none 4 := ⟨cd_X5_take, in_X5, by decide +kernel⟩
theorem yy_X5_aligned : zY yX5_aligned cX5_aligned 7 (some .int) 2 := ⟨cd_X5_aligned, in_X5, by decide +kernel⟩
theorem yy_X5_free : zY yX5_free cX5_free 2 (some .int) 1 := ⟨cd_X5_free, in_X5, by decide +kernel⟩
theorem yy_X5_isBad : zY yX5_isBad cX5_isBad 3 (some .boolean) 1 := ⟨cd_X5_isBad, in_X5, by decide +kernel⟩
theorem yy_X5_isFree : zY yX5_isFree cX5_isFree 2 (some .boolean) 1 := ⟨cd_X5_isFree, in_X5, by decide +kernel⟩
theorem yy_X5_release : zY yX5_release cX5_release 6 (some .int) 1 := ⟨cd_X5_release, in_X5, by decide +kernel⟩
theorem yy_X5_resize : zY yX5_resize cX5_resize 10 (some .int) 2 := ⟨cd_X5_resize, in_X5, by decide +kernel⟩
theorem yy_X5_moved : zY yX5_moved cX5_moved 6 (some .int) 3 := ⟨cd_X5_moved, in_X5, by decide +kernel⟩
theorem yy_X5_grow : zY yX5_grow cX5_grow 4 (some .int) 1 := ⟨cd_X5_grow, in_X5, by decide +kernel⟩
theorem yy_X5_size : zY yX5_size cX5_size 2 (some .int) 1 := ⟨cd_X5_size, in_X5, by decide +kernel⟩
theorem yy_X5_put : zY yX5_put cX5_put 5 (some .int) 3 := ⟨cd_X5_put, in_X5, by decide +kernel⟩
theorem yy_X5_word : zY yX5_word cX5_word 2 (some .long) 1 := ⟨cd_X5_word, in_X5, by decide +kernel⟩
theorem yy_X5_spoil : zY yX5_spoil cX5_spoil 4 (some .int) 2 := ⟨cd_X5_spoil, in_X5, by decide +kernel⟩
theorem yy_X5_check : zY yX5_check cX5_check 3 (some .int) 0 := ⟨cd_X5_check, in_X5, by decide +kernel⟩
theorem yy_X5_checkBlocks : zY yX5_checkBlocks cX5_checkBlocks 4 (some .int) 0 := ⟨cd_X5_checkBlocks, in_X5, by decide +kernel⟩
theorem yy_X5_wrongIn : zY yX5_wrongIn cX5_wrongIn 8 (some .int) 2 := ⟨cd_X5_wrongIn, in_X5, by decide +kernel⟩
theorem yy_X5_wrong : zY yX5_wrong cX5_wrong 3 (some .int) 2 := ⟨cd_X5_wrong, in_X5, by decide +kernel⟩
theorem yy_X5_checkList : zY yX5_checkList cX5_checkList 6 (some .int) 1 := ⟨cd_X5_checkList, in_X5, by decide +kernel⟩
theorem yy_X5_where : zY yX5_where cX5_where 1 (some .int) 0 := ⟨cd_X5_where, in_X5, by decide +kernel⟩
theorem yy_X5_listed : zY yX5_listed cX5_listed 5 (some .int) 2 := ⟨cd_X5_listed, in_X5, by decide +kernel⟩
theorem yy_X5_bits : zY yX5_bits cX5_bits 4 (some .int) 1 := ⟨cd_X5_bits, in_X5, by decide +kernel⟩
theorem yy_X5_bitsIn : zY yX5_bitsIn cX5_bitsIn 4 (some .int) 1 := ⟨cd_X5_bitsIn, in_X5, by decide +kernel⟩
theorem yy_X5_block : zY yX5_block cX5_block 5 (some .int) 2 := ⟨cd_X5_block, in_X5, by decide +kernel⟩
theorem yy_X5_found : zY yX5_found cX5_found 3 (some .int) 1 := ⟨cd_X5_found, in_X5, by decide +kernel⟩
theorem yy_X5_count : zY yX5_count cX5_count 2 (some .int) 1 := ⟨cd_X5_count, in_X5, by decide +kernel⟩
theorem yy_X5_counted : zY yX5_counted cX5_counted 5 (some .int) 1 := ⟨cd_X5_counted, in_X5, by decide +kernel⟩
end
