section
-- ===== PART A: goes FIRST, ahead of the names: the tables' words, and 'selects' of the private methods out of them =====
/-- a private method of a class that the tables say can be made, by its rows of tables_1 -/
def lw_okq (q : MethodName × Nat) : Prop := (q.1.cls ≠ "java/lang/invoke/MethodHandle" ∧ q.1.cls ≠ "java/lang/invoke/VarHandle") ∧ Cond.instantiable q.1.cls q.2 ∈ tables_1 ∧ Cond.privateMethod q.1 ∈ tables_1 ∧ Cond.instanceMethod q.1 ∈ tables_1
theorem lw_p0 : lw_okq (⟨"BoxSpider$Room", "stretch", "(II)I"⟩, 7) := ⟨⟨by decide +kernel, by decide +kernel⟩, List.mem_of_getElem? (i := 24) (by decide +kernel), List.mem_of_getElem? (i := 315) (by decide +kernel), List.mem_of_getElem? (i := 316) (by decide +kernel)⟩
theorem lw_p1 : lw_okq (⟨"BoxSpider$Room", "holds", "(III)Z"⟩, 7) := ⟨⟨by decide +kernel, by decide +kernel⟩, List.mem_of_getElem? (i := 24) (by decide +kernel), List.mem_of_getElem? (i := 319) (by decide +kernel), List.mem_of_getElem? (i := 320) (by decide +kernel)⟩
theorem lw_p2 : lw_okq (⟨"BoxSpider$Spot", "set", "([IIII)V"⟩, 1) := ⟨⟨by decide +kernel, by decide +kernel⟩, List.mem_of_getElem? (i := 30) (by decide +kernel), List.mem_of_getElem? (i := 323) (by decide +kernel), List.mem_of_getElem? (i := 324) (by decide +kernel)⟩
theorem lw_p3 : lw_okq (⟨"BoxSpider$Spot", "isOnBox", "()Z"⟩, 1) := ⟨⟨by decide +kernel, by decide +kernel⟩, List.mem_of_getElem? (i := 30) (by decide +kernel), List.mem_of_getElem? (i := 327) (by decide +kernel), List.mem_of_getElem? (i := 328) (by decide +kernel)⟩
theorem lw_p4 : lw_okq (⟨"BoxSpider$Room", "move", "(IIII)V"⟩, 7) := ⟨⟨by decide +kernel, by decide +kernel⟩, List.mem_of_getElem? (i := 24) (by decide +kernel), List.mem_of_getElem? (i := 331) (by decide +kernel), List.mem_of_getElem? (i := 332) (by decide +kernel)⟩
theorem lw_p5 : lw_okq (⟨"BoxSpider$Room", "spotOf", "(ILBoxSpider$Spot;)V"⟩, 7) := ⟨⟨by decide +kernel, by decide +kernel⟩, List.mem_of_getElem? (i := 24) (by decide +kernel), List.mem_of_getElem? (i := 348) (by decide +kernel), List.mem_of_getElem? (i := 349) (by decide +kernel)⟩
theorem lw_p6 : lw_okq (⟨"BoxSpider$Spot", "wallBits", "()I"⟩, 1) := ⟨⟨by decide +kernel, by decide +kernel⟩, List.mem_of_getElem? (i := 30) (by decide +kernel), List.mem_of_getElem? (i := 352) (by decide +kernel), List.mem_of_getElem? (i := 353) (by decide +kernel)⟩
theorem lw_p7 : lw_okq (⟨"BoxSpider$Sheet", "isLost", "()Z"⟩, 3) := ⟨⟨by decide +kernel, by decide +kernel⟩, List.mem_of_getElem? (i := 255) (by decide +kernel), List.mem_of_getElem? (i := 363) (by decide +kernel), List.mem_of_getElem? (i := 364) (by decide +kernel)⟩
theorem lw_p8 : lw_okq (⟨"BoxSpider", "found", "(I)I"⟩, 11) := ⟨⟨by decide +kernel, by decide +kernel⟩, List.mem_of_getElem? (i := 16) (by decide +kernel), List.mem_of_getElem? (i := 367) (by decide +kernel), List.mem_of_getElem? (i := 368) (by decide +kernel)⟩
theorem lw_p9 : lw_okq (⟨"BoxSpider$Rolls", "append", "(I)V"⟩, 2) := ⟨⟨by decide +kernel, by decide +kernel⟩, List.mem_of_getElem? (i := 71) (by decide +kernel), List.mem_of_getElem? (i := 378) (by decide +kernel), List.mem_of_getElem? (i := 379) (by decide +kernel)⟩
theorem lw_p10 : lw_okq (⟨"BoxSpider$Rolls", "firstWrong", "()I"⟩, 2) := ⟨⟨by decide +kernel, by decide +kernel⟩, List.mem_of_getElem? (i := 71) (by decide +kernel), List.mem_of_getElem? (i := 394) (by decide +kernel), List.mem_of_getElem? (i := 395) (by decide +kernel)⟩
theorem lw_p11 : lw_okq (⟨"BoxSpider$Room", "isBarred", "(II)Z"⟩, 7) := ⟨⟨by decide +kernel, by decide +kernel⟩, List.mem_of_getElem? (i := 24) (by decide +kernel), List.mem_of_getElem? (i := 408) (by decide +kernel), List.mem_of_getElem? (i := 409) (by decide +kernel)⟩
theorem lw_p12 : lw_okq (⟨"BoxSpider$Room", "setBar", "(IIZ)V"⟩, 7) := ⟨⟨by decide +kernel, by decide +kernel⟩, List.mem_of_getElem? (i := 24) (by decide +kernel), List.mem_of_getElem? (i := 412) (by decide +kernel), List.mem_of_getElem? (i := 413) (by decide +kernel)⟩
theorem lw_p13 : lw_okq (⟨"BoxSpider$Rolls", "valid", "()I"⟩, 2) := ⟨⟨by decide +kernel, by decide +kernel⟩, List.mem_of_getElem? (i := 71) (by decide +kernel), List.mem_of_getElem? (i := 420) (by decide +kernel), List.mem_of_getElem? (i := 421) (by decide +kernel)⟩
theorem lw_p14 : lw_okq (⟨"BoxSpider", "standBehind", "(I)V"⟩, 11) := ⟨⟨by decide +kernel, by decide +kernel⟩, List.mem_of_getElem? (i := 16) (by decide +kernel), List.mem_of_getElem? (i := 425) (by decide +kernel), List.mem_of_getElem? (i := 426) (by decide +kernel)⟩
theorem lw_p15 : lw_okq (⟨"BoxSpider$Stand", "start", "(I[I)V"⟩, 8) := ⟨⟨by decide +kernel, by decide +kernel⟩, List.mem_of_getElem? (i := 114) (by decide +kernel), List.mem_of_getElem? (i := 429) (by decide +kernel), List.mem_of_getElem? (i := 430) (by decide +kernel)⟩
def lw_privs_1 : List (MethodName × Nat) := [(⟨"BoxSpider$Room", "stretch", "(II)I"⟩, 7), (⟨"BoxSpider$Room", "holds", "(III)Z"⟩, 7), (⟨"BoxSpider$Spot", "set", "([IIII)V"⟩, 1), (⟨"BoxSpider$Spot", "isOnBox", "()Z"⟩, 1), (⟨"BoxSpider$Room", "move", "(IIII)V"⟩, 7), (⟨"BoxSpider$Room", "spotOf", "(ILBoxSpider$Spot;)V"⟩, 7), (⟨"BoxSpider$Spot", "wallBits", "()I"⟩, 1), (⟨"BoxSpider$Sheet", "isLost", "()Z"⟩, 3), (⟨"BoxSpider", "found", "(I)I"⟩, 11), (⟨"BoxSpider$Rolls", "append", "(I)V"⟩, 2), (⟨"BoxSpider$Rolls", "firstWrong", "()I"⟩, 2), (⟨"BoxSpider$Room", "isBarred", "(II)Z"⟩, 7), (⟨"BoxSpider$Room", "setBar", "(IIZ)V"⟩, 7), (⟨"BoxSpider$Rolls", "valid", "()I"⟩, 2), (⟨"BoxSpider", "standBehind", "(I)V"⟩, 11), (⟨"BoxSpider$Stand", "start", "(I[I)V"⟩, 8)]
theorem lw_r1 : ∀ q ∈ lw_privs_1, lw_okq q := List.forall_mem_cons.mpr ⟨lw_p0, List.forall_mem_cons.mpr ⟨lw_p1, List.forall_mem_cons.mpr ⟨lw_p2, List.forall_mem_cons.mpr ⟨lw_p3, List.forall_mem_cons.mpr ⟨lw_p4, List.forall_mem_cons.mpr ⟨lw_p5, List.forall_mem_cons.mpr ⟨lw_p6, List.forall_mem_cons.mpr ⟨lw_p7, List.forall_mem_cons.mpr ⟨lw_p8, List.forall_mem_cons.mpr ⟨lw_p9, List.forall_mem_cons.mpr ⟨lw_p10, List.forall_mem_cons.mpr ⟨lw_p11, List.forall_mem_cons.mpr ⟨lw_p12, List.forall_mem_cons.mpr ⟨lw_p13, List.forall_mem_cons.mpr ⟨lw_p14, List.forall_mem_cons.mpr ⟨lw_p15, fun _ h => absurd h List.not_mem_nil⟩⟩⟩⟩⟩⟩⟩⟩⟩⟩⟩⟩⟩⟩⟩⟩
theorem lw_p16 : lw_okq (⟨"BoxSpider$Stand", "roll", "(I)V"⟩, 8) := ⟨⟨by decide +kernel, by decide +kernel⟩, List.mem_of_getElem? (i := 114) (by decide +kernel), List.mem_of_getElem? (i := 434) (by decide +kernel), List.mem_of_getElem? (i := 435) (by decide +kernel)⟩
theorem lw_p17 : lw_okq (⟨"BoxSpider$Spot", "isOn", "(I)Z"⟩, 1) := ⟨⟨by decide +kernel, by decide +kernel⟩, List.mem_of_getElem? (i := 30) (by decide +kernel), List.mem_of_getElem? (i := 442) (by decide +kernel), List.mem_of_getElem? (i := 443) (by decide +kernel)⟩
theorem lw_p18 : lw_okq (⟨"BoxSpider$Stand", "planeX", "(LBoxSpider$Spot;)I"⟩, 8) := ⟨⟨by decide +kernel, by decide +kernel⟩, List.mem_of_getElem? (i := 114) (by decide +kernel), List.mem_of_getElem? (i := 446) (by decide +kernel), List.mem_of_getElem? (i := 447) (by decide +kernel)⟩
theorem lw_p19 : lw_okq (⟨"BoxSpider$Stand", "planeY", "(LBoxSpider$Spot;)I"⟩, 8) := ⟨⟨by decide +kernel, by decide +kernel⟩, List.mem_of_getElem? (i := 114) (by decide +kernel), List.mem_of_getElem? (i := 450) (by decide +kernel), List.mem_of_getElem? (i := 451) (by decide +kernel)⟩
theorem lw_p20 : lw_okq (⟨"BoxSpider$Table", "look", "(II)I"⟩, 6) := ⟨⟨by decide +kernel, by decide +kernel⟩, List.mem_of_getElem? (i := 197) (by decide +kernel), List.mem_of_getElem? (i := 458) (by decide +kernel), List.mem_of_getElem? (i := 459) (by decide +kernel)⟩
theorem lw_p21 : lw_okq (⟨"BoxSpider$Search", "find", "([I)V"⟩, 11) := ⟨⟨by decide +kernel, by decide +kernel⟩, List.mem_of_getElem? (i := 86) (by decide +kernel), List.mem_of_getElem? (i := 463) (by decide +kernel), List.mem_of_getElem? (i := 464) (by decide +kernel)⟩
theorem lw_p22 : lw_okq (⟨"BoxSpider$Search", "extend", "(II)V"⟩, 11) := ⟨⟨by decide +kernel, by decide +kernel⟩, List.mem_of_getElem? (i := 86) (by decide +kernel), List.mem_of_getElem? (i := 470) (by decide +kernel), List.mem_of_getElem? (i := 471) (by decide +kernel)⟩
theorem lw_p23 : lw_okq (⟨"BoxSpider$Search", "weigh", "(I)V"⟩, 11) := ⟨⟨by decide +kernel, by decide +kernel⟩, List.mem_of_getElem? (i := 86) (by decide +kernel), List.mem_of_getElem? (i := 474) (by decide +kernel), List.mem_of_getElem? (i := 475) (by decide +kernel)⟩
theorem lw_p24 : lw_okq (⟨"BoxSpider$Line", "begin", "(II)V"⟩, 4) := ⟨⟨by decide +kernel, by decide +kernel⟩, List.mem_of_getElem? (i := 94) (by decide +kernel), List.mem_of_getElem? (i := 480) (by decide +kernel), List.mem_of_getElem? (i := 481) (by decide +kernel)⟩
theorem lw_p25 : lw_okq (⟨"BoxSpider$Line", "end", "(II)V"⟩, 4) := ⟨⟨by decide +kernel, by decide +kernel⟩, List.mem_of_getElem? (i := 94) (by decide +kernel), List.mem_of_getElem? (i := 484) (by decide +kernel), List.mem_of_getElem? (i := 485) (by decide +kernel)⟩
theorem lw_p26 : lw_okq (⟨"BoxSpider$Line", "square", "()I"⟩, 4) := ⟨⟨by decide +kernel, by decide +kernel⟩, List.mem_of_getElem? (i := 94) (by decide +kernel), List.mem_of_getElem? (i := 488) (by decide +kernel), List.mem_of_getElem? (i := 489) (by decide +kernel)⟩
theorem lw_p27 : lw_okq (⟨"BoxSpider$Line", "meets", "(LBoxSpider$Stand;I)Z"⟩, 4) := ⟨⟨by decide +kernel, by decide +kernel⟩, List.mem_of_getElem? (i := 94) (by decide +kernel), List.mem_of_getElem? (i := 492) (by decide +kernel), List.mem_of_getElem? (i := 493) (by decide +kernel)⟩
theorem lw_p28 : lw_okq (⟨"BoxSpider$Search", "packedRow", "(I)I"⟩, 11) := ⟨⟨by decide +kernel, by decide +kernel⟩, List.mem_of_getElem? (i := 86) (by decide +kernel), List.mem_of_getElem? (i := 496) (by decide +kernel), List.mem_of_getElem? (i := 497) (by decide +kernel)⟩
theorem lw_p29 : lw_okq (⟨"BoxSpider$Stand", "rollTo", "(I)I"⟩, 8) := ⟨⟨by decide +kernel, by decide +kernel⟩, List.mem_of_getElem? (i := 114) (by decide +kernel), List.mem_of_getElem? (i := 500) (by decide +kernel), List.mem_of_getElem? (i := 501) (by decide +kernel)⟩
theorem lw_p30 : lw_okq (⟨"BoxSpider$Stand", "follow", "(LBoxSpider$Stand;I)V"⟩, 8) := ⟨⟨by decide +kernel, by decide +kernel⟩, List.mem_of_getElem? (i := 114) (by decide +kernel), List.mem_of_getElem? (i := 504) (by decide +kernel), List.mem_of_getElem? (i := 505) (by decide +kernel)⟩
theorem lw_p31 : lw_okq (⟨"BoxSpider", "reachOf", "(I)I"⟩, 11) := ⟨⟨by decide +kernel, by decide +kernel⟩, List.mem_of_getElem? (i := 16) (by decide +kernel), List.mem_of_getElem? (i := 528) (by decide +kernel), List.mem_of_getElem? (i := 529) (by decide +kernel)⟩
def lw_privs_2 : List (MethodName × Nat) := [(⟨"BoxSpider$Stand", "roll", "(I)V"⟩, 8), (⟨"BoxSpider$Spot", "isOn", "(I)Z"⟩, 1), (⟨"BoxSpider$Stand", "planeX", "(LBoxSpider$Spot;)I"⟩, 8), (⟨"BoxSpider$Stand", "planeY", "(LBoxSpider$Spot;)I"⟩, 8), (⟨"BoxSpider$Table", "look", "(II)I"⟩, 6), (⟨"BoxSpider$Search", "find", "([I)V"⟩, 11), (⟨"BoxSpider$Search", "extend", "(II)V"⟩, 11), (⟨"BoxSpider$Search", "weigh", "(I)V"⟩, 11), (⟨"BoxSpider$Line", "begin", "(II)V"⟩, 4), (⟨"BoxSpider$Line", "end", "(II)V"⟩, 4), (⟨"BoxSpider$Line", "square", "()I"⟩, 4), (⟨"BoxSpider$Line", "meets", "(LBoxSpider$Stand;I)Z"⟩, 4), (⟨"BoxSpider$Search", "packedRow", "(I)I"⟩, 11), (⟨"BoxSpider$Stand", "rollTo", "(I)I"⟩, 8), (⟨"BoxSpider$Stand", "follow", "(LBoxSpider$Stand;I)V"⟩, 8), (⟨"BoxSpider", "reachOf", "(I)I"⟩, 11)]
theorem lw_r2 : ∀ q ∈ lw_privs_2, lw_okq q := List.forall_mem_cons.mpr ⟨lw_p16, List.forall_mem_cons.mpr ⟨lw_p17, List.forall_mem_cons.mpr ⟨lw_p18, List.forall_mem_cons.mpr ⟨lw_p19, List.forall_mem_cons.mpr ⟨lw_p20, List.forall_mem_cons.mpr ⟨lw_p21, List.forall_mem_cons.mpr ⟨lw_p22, List.forall_mem_cons.mpr ⟨lw_p23, List.forall_mem_cons.mpr ⟨lw_p24, List.forall_mem_cons.mpr ⟨lw_p25, List.forall_mem_cons.mpr ⟨lw_p26, List.forall_mem_cons.mpr ⟨lw_p27, List.forall_mem_cons.mpr ⟨lw_p28, List.forall_mem_cons.mpr ⟨lw_p29, List.forall_mem_cons.mpr ⟨lw_p30, List.forall_mem_cons.mpr ⟨lw_p31, fun _ h => absurd h List.not_mem_nil⟩⟩⟩⟩⟩⟩⟩⟩⟩⟩⟩⟩⟩⟩⟩⟩
theorem lw_p32 : lw_okq (⟨"BoxSpider$Wiring", "clear", "()V"⟩, 4) := ⟨⟨by decide +kernel, by decide +kernel⟩, List.mem_of_getElem? (i := 226) (by decide +kernel), List.mem_of_getElem? (i := 543) (by decide +kernel), List.mem_of_getElem? (i := 544) (by decide +kernel)⟩
theorem lw_p33 : lw_okq (⟨"BoxSpider$Wiring", "joinNext", "(LBoxSpider$Table;I)Z"⟩, 4) := ⟨⟨by decide +kernel, by decide +kernel⟩, List.mem_of_getElem? (i := 226) (by decide +kernel), List.mem_of_getElem? (i := 547) (by decide +kernel), List.mem_of_getElem? (i := 548) (by decide +kernel)⟩
theorem lw_p34 : lw_okq (⟨"BoxSpider$Wiring", "isOpen", "(II)Z"⟩, 4) := ⟨⟨by decide +kernel, by decide +kernel⟩, List.mem_of_getElem? (i := 226) (by decide +kernel), List.mem_of_getElem? (i := 551) (by decide +kernel), List.mem_of_getElem? (i := 552) (by decide +kernel)⟩
theorem lw_p35 : lw_okq (⟨"BoxSpider$Wiring", "unite", "(II)V"⟩, 4) := ⟨⟨by decide +kernel, by decide +kernel⟩, List.mem_of_getElem? (i := 226) (by decide +kernel), List.mem_of_getElem? (i := 556) (by decide +kernel), List.mem_of_getElem? (i := 557) (by decide +kernel)⟩
theorem lw_p36 : lw_okq (⟨"BoxSpider", "isNear", "(III)Z"⟩, 11) := ⟨⟨by decide +kernel, by decide +kernel⟩, List.mem_of_getElem? (i := 16) (by decide +kernel), List.mem_of_getElem? (i := 567) (by decide +kernel), List.mem_of_getElem? (i := 568) (by decide +kernel)⟩
theorem lw_p37 : lw_okq (⟨"BoxSpider", "lineStaysWithin", "(II)Z"⟩, 11) := ⟨⟨by decide +kernel, by decide +kernel⟩, List.mem_of_getElem? (i := 16) (by decide +kernel), List.mem_of_getElem? (i := 577) (by decide +kernel), List.mem_of_getElem? (i := 578) (by decide +kernel)⟩
theorem lw_p38 : lw_okq (⟨"BoxSpider", "nextRoll", "(IIII)I"⟩, 11) := ⟨⟨by decide +kernel, by decide +kernel⟩, List.mem_of_getElem? (i := 16) (by decide +kernel), List.mem_of_getElem? (i := 590) (by decide +kernel), List.mem_of_getElem? (i := 591) (by decide +kernel)⟩
theorem lw_p39 : lw_okq (⟨"BoxSpider", "lengthIfHigh", "(III)I"⟩, 11) := ⟨⟨by decide +kernel, by decide +kernel⟩, List.mem_of_getElem? (i := 16) (by decide +kernel), List.mem_of_getElem? (i := 601) (by decide +kernel), List.mem_of_getElem? (i := 602) (by decide +kernel)⟩
theorem lw_p40 : lw_okq (⟨"BoxSpider$Sheet", "renew", "(II)V"⟩, 3) := ⟨⟨by decide +kernel, by decide +kernel⟩, List.mem_of_getElem? (i := 255) (by decide +kernel), List.mem_of_getElem? (i := 623) (by decide +kernel), List.mem_of_getElem? (i := 624) (by decide +kernel)⟩
theorem lw_p41 : lw_okq (⟨"BoxSpider$Sheet", "findingAt", "(II)I"⟩, 3) := ⟨⟨by decide +kernel, by decide +kernel⟩, List.mem_of_getElem? (i := 255) (by decide +kernel), List.mem_of_getElem? (i := 635) (by decide +kernel), List.mem_of_getElem? (i := 636) (by decide +kernel)⟩
theorem lw_p42 : lw_okq (⟨"BoxSpider$Sheet", "put", "(II)V"⟩, 3) := ⟨⟨by decide +kernel, by decide +kernel⟩, List.mem_of_getElem? (i := 255) (by decide +kernel), List.mem_of_getElem? (i := 640) (by decide +kernel), List.mem_of_getElem? (i := 641) (by decide +kernel)⟩
theorem lw_p43 : lw_okq (⟨"BoxSpider$Sheet", "hasRun", "(II)Z"⟩, 3) := ⟨⟨by decide +kernel, by decide +kernel⟩, List.mem_of_getElem? (i := 255) (by decide +kernel), List.mem_of_getElem? (i := 653) (by decide +kernel), List.mem_of_getElem? (i := 654) (by decide +kernel)⟩
theorem lw_p44 : lw_okq (⟨"BoxSpider$Room", "barredEdges", "()I"⟩, 7) := ⟨⟨by decide +kernel, by decide +kernel⟩, List.mem_of_getElem? (i := 24) (by decide +kernel), List.mem_of_getElem? (i := 665) (by decide +kernel), List.mem_of_getElem? (i := 666) (by decide +kernel)⟩
theorem lw_p45 : lw_okq (⟨"BoxSpider$Room", "unlikePlaces", "()I"⟩, 7) := ⟨⟨by decide +kernel, by decide +kernel⟩, List.mem_of_getElem? (i := 24) (by decide +kernel), List.mem_of_getElem? (i := 675) (by decide +kernel), List.mem_of_getElem? (i := 676) (by decide +kernel)⟩
theorem lw_p46 : lw_okq (⟨"BoxSpider$Room", "hasLikeBefore", "(I)Z"⟩, 7) := ⟨⟨by decide +kernel, by decide +kernel⟩, List.mem_of_getElem? (i := 24) (by decide +kernel), List.mem_of_getElem? (i := 679) (by decide +kernel), List.mem_of_getElem? (i := 680) (by decide +kernel)⟩
theorem lw_p47 : lw_okq (⟨"BoxSpiderModel", "met", "(I)I"⟩, 20) := ⟨⟨by decide +kernel, by decide +kernel⟩, List.mem_of_getElem? (i := 706) (by decide +kernel), List.mem_of_getElem? (i := 785) (by decide +kernel), List.mem_of_getElem? (i := 786) (by decide +kernel)⟩
def lw_privs_3 : List (MethodName × Nat) := [(⟨"BoxSpider$Wiring", "clear", "()V"⟩, 4), (⟨"BoxSpider$Wiring", "joinNext", "(LBoxSpider$Table;I)Z"⟩, 4), (⟨"BoxSpider$Wiring", "isOpen", "(II)Z"⟩, 4), (⟨"BoxSpider$Wiring", "unite", "(II)V"⟩, 4), (⟨"BoxSpider", "isNear", "(III)Z"⟩, 11), (⟨"BoxSpider", "lineStaysWithin", "(II)Z"⟩, 11), (⟨"BoxSpider", "nextRoll", "(IIII)I"⟩, 11), (⟨"BoxSpider", "lengthIfHigh", "(III)I"⟩, 11), (⟨"BoxSpider$Sheet", "renew", "(II)V"⟩, 3), (⟨"BoxSpider$Sheet", "findingAt", "(II)I"⟩, 3), (⟨"BoxSpider$Sheet", "put", "(II)V"⟩, 3), (⟨"BoxSpider$Sheet", "hasRun", "(II)Z"⟩, 3), (⟨"BoxSpider$Room", "barredEdges", "()I"⟩, 7), (⟨"BoxSpider$Room", "unlikePlaces", "()I"⟩, 7), (⟨"BoxSpider$Room", "hasLikeBefore", "(I)Z"⟩, 7), (⟨"BoxSpiderModel", "met", "(I)I"⟩, 20)]
theorem lw_r3 : ∀ q ∈ lw_privs_3, lw_okq q := List.forall_mem_cons.mpr ⟨lw_p32, List.forall_mem_cons.mpr ⟨lw_p33, List.forall_mem_cons.mpr ⟨lw_p34, List.forall_mem_cons.mpr ⟨lw_p35, List.forall_mem_cons.mpr ⟨lw_p36, List.forall_mem_cons.mpr ⟨lw_p37, List.forall_mem_cons.mpr ⟨lw_p38, List.forall_mem_cons.mpr ⟨lw_p39, List.forall_mem_cons.mpr ⟨lw_p40, List.forall_mem_cons.mpr ⟨lw_p41, List.forall_mem_cons.mpr ⟨lw_p42, List.forall_mem_cons.mpr ⟨lw_p43, List.forall_mem_cons.mpr ⟨lw_p44, List.forall_mem_cons.mpr ⟨lw_p45, List.forall_mem_cons.mpr ⟨lw_p46, List.forall_mem_cons.mpr ⟨lw_p47, fun _ h => absurd h List.not_mem_nil⟩⟩⟩⟩⟩⟩⟩⟩⟩⟩⟩⟩⟩⟩⟩⟩
theorem lw_p48 : lw_okq (⟨"BoxSpiderModel", "lacks", "(III)I"⟩, 20) := ⟨⟨by decide +kernel, by decide +kernel⟩, List.mem_of_getElem? (i := 706) (by decide +kernel), List.mem_of_getElem? (i := 797) (by decide +kernel), List.mem_of_getElem? (i := 798) (by decide +kernel)⟩
theorem lw_p49 : lw_okq (⟨"BoxSpiderModel", "isThere", "(I)Z"⟩, 20) := ⟨⟨by decide +kernel, by decide +kernel⟩, List.mem_of_getElem? (i := 706) (by decide +kernel), List.mem_of_getElem? (i := 818) (by decide +kernel), List.mem_of_getElem? (i := 819) (by decide +kernel)⟩
theorem lw_p50 : lw_okq (⟨"BoxSpiderModel", "isOnBox", "(III)Z"⟩, 20) := ⟨⟨by decide +kernel, by decide +kernel⟩, List.mem_of_getElem? (i := 706) (by decide +kernel), List.mem_of_getElem? (i := 822) (by decide +kernel), List.mem_of_getElem? (i := 823) (by decide +kernel)⟩
theorem lw_p51 : lw_okq (⟨"BoxSpiderModel", "liesOn", "(IIII)Z"⟩, 20) := ⟨⟨by decide +kernel, by decide +kernel⟩, List.mem_of_getElem? (i := 706) (by decide +kernel), List.mem_of_getElem? (i := 826) (by decide +kernel), List.mem_of_getElem? (i := 827) (by decide +kernel)⟩
theorem lw_p52 : lw_okq (⟨"BoxSpiderModel", "puts", "(IIII)V"⟩, 20) := ⟨⟨by decide +kernel, by decide +kernel⟩, List.mem_of_getElem? (i := 706) (by decide +kernel), List.mem_of_getElem? (i := 833) (by decide +kernel), List.mem_of_getElem? (i := 834) (by decide +kernel)⟩
theorem lw_p53 : lw_okq (⟨"BoxSpiderModel", "atOf", "(II)I"⟩, 20) := ⟨⟨by decide +kernel, by decide +kernel⟩, List.mem_of_getElem? (i := 706) (by decide +kernel), List.mem_of_getElem? (i := 849) (by decide +kernel), List.mem_of_getElem? (i := 850) (by decide +kernel)⟩
theorem lw_p54 : lw_okq (⟨"BoxSpiderModel", "facesOf", "(I)I"⟩, 20) := ⟨⟨by decide +kernel, by decide +kernel⟩, List.mem_of_getElem? (i := 706) (by decide +kernel), List.mem_of_getElem? (i := 853) (by decide +kernel), List.mem_of_getElem? (i := 854) (by decide +kernel)⟩
theorem lw_p55 : lw_okq (⟨"BoxSpiderModel", "isOn", "(II)Z"⟩, 20) := ⟨⟨by decide +kernel, by decide +kernel⟩, List.mem_of_getElem? (i := 706) (by decide +kernel), List.mem_of_getElem? (i := 857) (by decide +kernel), List.mem_of_getElem? (i := 858) (by decide +kernel)⟩
theorem lw_p56 : lw_okq (⟨"BoxSpiderModel", "rolls", "()I"⟩, 20) := ⟨⟨by decide +kernel, by decide +kernel⟩, List.mem_of_getElem? (i := 706) (by decide +kernel), List.mem_of_getElem? (i := 901) (by decide +kernel), List.mem_of_getElem? (i := 902) (by decide +kernel)⟩
theorem lw_p57 : lw_okq (⟨"BoxSpiderModel", "laidOf", "(II)I"⟩, 20) := ⟨⟨by decide +kernel, by decide +kernel⟩, List.mem_of_getElem? (i := 706) (by decide +kernel), List.mem_of_getElem? (i := 907) (by decide +kernel), List.mem_of_getElem? (i := 908) (by decide +kernel)⟩
theorem lw_p58 : lw_okq (⟨"BoxSpiderModel", "goesTo", "(I)V"⟩, 20) := ⟨⟨by decide +kernel, by decide +kernel⟩, List.mem_of_getElem? (i := 706) (by decide +kernel), List.mem_of_getElem? (i := 911) (by decide +kernel), List.mem_of_getElem? (i := 912) (by decide +kernel)⟩
theorem lw_p59 : lw_okq (⟨"BoxSpiderModel", "begins", "()V"⟩, 20) := ⟨⟨by decide +kernel, by decide +kernel⟩, List.mem_of_getElem? (i := 706) (by decide +kernel), List.mem_of_getElem? (i := 915) (by decide +kernel), List.mem_of_getElem? (i := 916) (by decide +kernel)⟩
theorem lw_p60 : lw_okq (⟨"BoxSpiderModel", "turns", "(II)V"⟩, 20) := ⟨⟨by decide +kernel, by decide +kernel⟩, List.mem_of_getElem? (i := 706) (by decide +kernel), List.mem_of_getElem? (i := 919) (by decide +kernel), List.mem_of_getElem? (i := 920) (by decide +kernel)⟩
theorem lw_p61 : lw_okq (⟨"BoxSpiderModel", "far", "(II)I"⟩, 20) := ⟨⟨by decide +kernel, by decide +kernel⟩, List.mem_of_getElem? (i := 706) (by decide +kernel), List.mem_of_getElem? (i := 923) (by decide +kernel), List.mem_of_getElem? (i := 924) (by decide +kernel)⟩
theorem lw_p62 : lw_okq (⟨"BoxSpiderModel", "southWest", "(II)I"⟩, 20) := ⟨⟨by decide +kernel, by decide +kernel⟩, List.mem_of_getElem? (i := 706) (by decide +kernel), List.mem_of_getElem? (i := 927) (by decide +kernel), List.mem_of_getElem? (i := 928) (by decide +kernel)⟩
theorem lw_p63 : lw_okq (⟨"BoxSpiderModel", "faceAt", "(I)I"⟩, 20) := ⟨⟨by decide +kernel, by decide +kernel⟩, List.mem_of_getElem? (i := 706) (by decide +kernel), List.mem_of_getElem? (i := 931) (by decide +kernel), List.mem_of_getElem? (i := 932) (by decide +kernel)⟩
def lw_privs_4 : List (MethodName × Nat) := [(⟨"BoxSpiderModel", "lacks", "(III)I"⟩, 20), (⟨"BoxSpiderModel", "isThere", "(I)Z"⟩, 20), (⟨"BoxSpiderModel", "isOnBox", "(III)Z"⟩, 20), (⟨"BoxSpiderModel", "liesOn", "(IIII)Z"⟩, 20), (⟨"BoxSpiderModel", "puts", "(IIII)V"⟩, 20), (⟨"BoxSpiderModel", "atOf", "(II)I"⟩, 20), (⟨"BoxSpiderModel", "facesOf", "(I)I"⟩, 20), (⟨"BoxSpiderModel", "isOn", "(II)Z"⟩, 20), (⟨"BoxSpiderModel", "rolls", "()I"⟩, 20), (⟨"BoxSpiderModel", "laidOf", "(II)I"⟩, 20), (⟨"BoxSpiderModel", "goesTo", "(I)V"⟩, 20), (⟨"BoxSpiderModel", "begins", "()V"⟩, 20), (⟨"BoxSpiderModel", "turns", "(II)V"⟩, 20), (⟨"BoxSpiderModel", "far", "(II)I"⟩, 20), (⟨"BoxSpiderModel", "southWest", "(II)I"⟩, 20), (⟨"BoxSpiderModel", "faceAt", "(I)I"⟩, 20)]
theorem lw_r4 : ∀ q ∈ lw_privs_4, lw_okq q := List.forall_mem_cons.mpr ⟨lw_p48, List.forall_mem_cons.mpr ⟨lw_p49, List.forall_mem_cons.mpr ⟨lw_p50, List.forall_mem_cons.mpr ⟨lw_p51, List.forall_mem_cons.mpr ⟨lw_p52, List.forall_mem_cons.mpr ⟨lw_p53, List.forall_mem_cons.mpr ⟨lw_p54, List.forall_mem_cons.mpr ⟨lw_p55, List.forall_mem_cons.mpr ⟨lw_p56, List.forall_mem_cons.mpr ⟨lw_p57, List.forall_mem_cons.mpr ⟨lw_p58, List.forall_mem_cons.mpr ⟨lw_p59, List.forall_mem_cons.mpr ⟨lw_p60, List.forall_mem_cons.mpr ⟨lw_p61, List.forall_mem_cons.mpr ⟨lw_p62, List.forall_mem_cons.mpr ⟨lw_p63, fun _ h => absurd h List.not_mem_nil⟩⟩⟩⟩⟩⟩⟩⟩⟩⟩⟩⟩⟩⟩⟩⟩
theorem lw_p64 : lw_okq (⟨"BoxSpiderModel", "liesOf", "(III)I"⟩, 20) := ⟨⟨by decide +kernel, by decide +kernel⟩, List.mem_of_getElem? (i := 706) (by decide +kernel), List.mem_of_getElem? (i := 939) (by decide +kernel), List.mem_of_getElem? (i := 940) (by decide +kernel)⟩
theorem lw_p65 : lw_okq (⟨"BoxSpiderModel", "liesAt", "(III)I"⟩, 20) := ⟨⟨by decide +kernel, by decide +kernel⟩, List.mem_of_getElem? (i := 706) (by decide +kernel), List.mem_of_getElem? (i := 943) (by decide +kernel), List.mem_of_getElem? (i := 944) (by decide +kernel)⟩
theorem lw_p66 : lw_okq (⟨"BoxSpiderModel", "imageOf", "(IIII)I"⟩, 20) := ⟨⟨by decide +kernel, by decide +kernel⟩, List.mem_of_getElem? (i := 706) (by decide +kernel), List.mem_of_getElem? (i := 947) (by decide +kernel), List.mem_of_getElem? (i := 948) (by decide +kernel)⟩
theorem lw_p67 : lw_okq (⟨"BoxSpiderModel", "shortestOf", "(II)I"⟩, 20) := ⟨⟨by decide +kernel, by decide +kernel⟩, List.mem_of_getElem? (i := 706) (by decide +kernel), List.mem_of_getElem? (i := 955) (by decide +kernel), List.mem_of_getElem? (i := 956) (by decide +kernel)⟩
theorem lw_p68 : lw_okq (⟨"BoxSpiderModel", "findFrom", "(III)V"⟩, 20) := ⟨⟨by decide +kernel, by decide +kernel⟩, List.mem_of_getElem? (i := 706) (by decide +kernel), List.mem_of_getElem? (i := 959) (by decide +kernel), List.mem_of_getElem? (i := 960) (by decide +kernel)⟩
theorem lw_p69 : lw_okq (⟨"BoxSpiderModel", "standsOn", "(I)V"⟩, 20) := ⟨⟨by decide +kernel, by decide +kernel⟩, List.mem_of_getElem? (i := 706) (by decide +kernel), List.mem_of_getElem? (i := 963) (by decide +kernel), List.mem_of_getElem? (i := 964) (by decide +kernel)⟩
theorem lw_p70 : lw_okq (⟨"BoxSpiderModel", "lineOf", "(IIII)I"⟩, 20) := ⟨⟨by decide +kernel, by decide +kernel⟩, List.mem_of_getElem? (i := 706) (by decide +kernel), List.mem_of_getElem? (i := 967) (by decide +kernel), List.mem_of_getElem? (i := 968) (by decide +kernel)⟩
theorem lw_p71 : lw_okq (⟨"BoxSpiderModel", "meets", "(IIIII)Z"⟩, 20) := ⟨⟨by decide +kernel, by decide +kernel⟩, List.mem_of_getElem? (i := 706) (by decide +kernel), List.mem_of_getElem? (i := 974) (by decide +kernel), List.mem_of_getElem? (i := 975) (by decide +kernel)⟩
theorem lw_p72 : lw_okq (⟨"BoxSpiderModel", "keeps", "(II)V"⟩, 20) := ⟨⟨by decide +kernel, by decide +kernel⟩, List.mem_of_getElem? (i := 706) (by decide +kernel), List.mem_of_getElem? (i := 984) (by decide +kernel), List.mem_of_getElem? (i := 985) (by decide +kernel)⟩
theorem lw_p73 : lw_okq (⟨"BoxSpiderModel", "isAhead", "(I)Z"⟩, 20) := ⟨⟨by decide +kernel, by decide +kernel⟩, List.mem_of_getElem? (i := 706) (by decide +kernel), List.mem_of_getElem? (i := 988) (by decide +kernel), List.mem_of_getElem? (i := 989) (by decide +kernel)⟩
theorem lw_p74 : lw_okq (⟨"BoxSpiderModel", "isNew", "(I)Z"⟩, 20) := ⟨⟨by decide +kernel, by decide +kernel⟩, List.mem_of_getElem? (i := 706) (by decide +kernel), List.mem_of_getElem? (i := 992) (by decide +kernel), List.mem_of_getElem? (i := 993) (by decide +kernel)⟩
theorem lw_p75 : lw_okq (⟨"BoxSpiderModel", "waysOf", "(II)I"⟩, 20) := ⟨⟨by decide +kernel, by decide +kernel⟩, List.mem_of_getElem? (i := 706) (by decide +kernel), List.mem_of_getElem? (i := 1000) (by decide +kernel), List.mem_of_getElem? (i := 1001) (by decide +kernel)⟩
theorem lw_p76 : lw_okq (⟨"BoxSpiderModel", "faceOf", "(III)I"⟩, 20) := ⟨⟨by decide +kernel, by decide +kernel⟩, List.mem_of_getElem? (i := 706) (by decide +kernel), List.mem_of_getElem? (i := 1008) (by decide +kernel), List.mem_of_getElem? (i := 1009) (by decide +kernel)⟩
theorem lw_p77 : lw_okq (⟨"BoxSpiderModel", "farthestOf", "(I)I"⟩, 20) := ⟨⟨by decide +kernel, by decide +kernel⟩, List.mem_of_getElem? (i := 706) (by decide +kernel), List.mem_of_getElem? (i := 1016) (by decide +kernel), List.mem_of_getElem? (i := 1017) (by decide +kernel)⟩
theorem lw_p78 : lw_okq (⟨"BoxSpiderModel", "sitNow", "()I"⟩, 20) := ⟨⟨by decide +kernel, by decide +kernel⟩, List.mem_of_getElem? (i := 706) (by decide +kernel), List.mem_of_getElem? (i := 1024) (by decide +kernel), List.mem_of_getElem? (i := 1025) (by decide +kernel)⟩
theorem lw_p79 : lw_okq (⟨"BoxSpiderModel", "nearerOf", "(II)I"⟩, 20) := ⟨⟨by decide +kernel, by decide +kernel⟩, List.mem_of_getElem? (i := 706) (by decide +kernel), List.mem_of_getElem? (i := 1032) (by decide +kernel), List.mem_of_getElem? (i := 1033) (by decide +kernel)⟩
def lw_privs_5 : List (MethodName × Nat) := [(⟨"BoxSpiderModel", "liesOf", "(III)I"⟩, 20), (⟨"BoxSpiderModel", "liesAt", "(III)I"⟩, 20), (⟨"BoxSpiderModel", "imageOf", "(IIII)I"⟩, 20), (⟨"BoxSpiderModel", "shortestOf", "(II)I"⟩, 20), (⟨"BoxSpiderModel", "findFrom", "(III)V"⟩, 20), (⟨"BoxSpiderModel", "standsOn", "(I)V"⟩, 20), (⟨"BoxSpiderModel", "lineOf", "(IIII)I"⟩, 20), (⟨"BoxSpiderModel", "meets", "(IIIII)Z"⟩, 20), (⟨"BoxSpiderModel", "keeps", "(II)V"⟩, 20), (⟨"BoxSpiderModel", "isAhead", "(I)Z"⟩, 20), (⟨"BoxSpiderModel", "isNew", "(I)Z"⟩, 20), (⟨"BoxSpiderModel", "waysOf", "(II)I"⟩, 20), (⟨"BoxSpiderModel", "faceOf", "(III)I"⟩, 20), (⟨"BoxSpiderModel", "farthestOf", "(I)I"⟩, 20), (⟨"BoxSpiderModel", "sitNow", "()I"⟩, 20), (⟨"BoxSpiderModel", "nearerOf", "(II)I"⟩, 20)]
theorem lw_r5 : ∀ q ∈ lw_privs_5, lw_okq q := List.forall_mem_cons.mpr ⟨lw_p64, List.forall_mem_cons.mpr ⟨lw_p65, List.forall_mem_cons.mpr ⟨lw_p66, List.forall_mem_cons.mpr ⟨lw_p67, List.forall_mem_cons.mpr ⟨lw_p68, List.forall_mem_cons.mpr ⟨lw_p69, List.forall_mem_cons.mpr ⟨lw_p70, List.forall_mem_cons.mpr ⟨lw_p71, List.forall_mem_cons.mpr ⟨lw_p72, List.forall_mem_cons.mpr ⟨lw_p73, List.forall_mem_cons.mpr ⟨lw_p74, List.forall_mem_cons.mpr ⟨lw_p75, List.forall_mem_cons.mpr ⟨lw_p76, List.forall_mem_cons.mpr ⟨lw_p77, List.forall_mem_cons.mpr ⟨lw_p78, List.forall_mem_cons.mpr ⟨lw_p79, fun _ h => absurd h List.not_mem_nil⟩⟩⟩⟩⟩⟩⟩⟩⟩⟩⟩⟩⟩⟩⟩⟩
theorem lw_p80 : lw_okq (⟨"BoxSpiderModel", "wiresOf", "(II)I"⟩, 20) := ⟨⟨by decide +kernel, by decide +kernel⟩, List.mem_of_getElem? (i := 706) (by decide +kernel), List.mem_of_getElem? (i := 1040) (by decide +kernel), List.mem_of_getElem? (i := 1041) (by decide +kernel)⟩
theorem lw_p81 : lw_okq (⟨"BoxSpiderModel", "joins", "(II)V"⟩, 20) := ⟨⟨by decide +kernel, by decide +kernel⟩, List.mem_of_getElem? (i := 706) (by decide +kernel), List.mem_of_getElem? (i := 1044) (by decide +kernel), List.mem_of_getElem? (i := 1045) (by decide +kernel)⟩
theorem lw_p82 : lw_okq (⟨"BoxSpiderModel", "withinOf", "(II)I"⟩, 20) := ⟨⟨by decide +kernel, by decide +kernel⟩, List.mem_of_getElem? (i := 706) (by decide +kernel), List.mem_of_getElem? (i := 1053) (by decide +kernel), List.mem_of_getElem? (i := 1054) (by decide +kernel)⟩
theorem lw_p83 : lw_okq (⟨"BoxSpiderModel", "toldOf", "(IIII)I"⟩, 20) := ⟨⟨by decide +kernel, by decide +kernel⟩, List.mem_of_getElem? (i := 706) (by decide +kernel), List.mem_of_getElem? (i := 1061) (by decide +kernel), List.mem_of_getElem? (i := 1062) (by decide +kernel)⟩
theorem lw_p84 : lw_okq (⟨"BoxSpiderModel", "snailOf", "(IIII)I"⟩, 20) := ⟨⟨by decide +kernel, by decide +kernel⟩, List.mem_of_getElem? (i := 706) (by decide +kernel), List.mem_of_getElem? (i := 1071) (by decide +kernel), List.mem_of_getElem? (i := 1072) (by decide +kernel)⟩
theorem lw_p85 : lw_okq (⟨"BoxSpiderModel", "threadOf", "(IIII)I"⟩, 20) := ⟨⟨by decide +kernel, by decide +kernel⟩, List.mem_of_getElem? (i := 706) (by decide +kernel), List.mem_of_getElem? (i := 1079) (by decide +kernel), List.mem_of_getElem? (i := 1080) (by decide +kernel)⟩
theorem lw_p86 : lw_okq (⟨"BoxSpiderModel", "fliesOf", "(IIII)I"⟩, 20) := ⟨⟨by decide +kernel, by decide +kernel⟩, List.mem_of_getElem? (i := 706) (by decide +kernel), List.mem_of_getElem? (i := 1088) (by decide +kernel), List.mem_of_getElem? (i := 1089) (by decide +kernel)⟩
theorem lw_p87 : lw_okq (⟨"BoxSpiderModel", "barred", "()I"⟩, 20) := ⟨⟨by decide +kernel, by decide +kernel⟩, List.mem_of_getElem? (i := 706) (by decide +kernel), List.mem_of_getElem? (i := 1101) (by decide +kernel), List.mem_of_getElem? (i := 1102) (by decide +kernel)⟩
theorem lw_p88 : lw_okq (⟨"BoxSpiderModel", "unlike", "()I"⟩, 20) := ⟨⟨by decide +kernel, by decide +kernel⟩, List.mem_of_getElem? (i := 706) (by decide +kernel), List.mem_of_getElem? (i := 1105) (by decide +kernel), List.mem_of_getElem? (i := 1106) (by decide +kernel)⟩
def lw_privs_6 : List (MethodName × Nat) := [(⟨"BoxSpiderModel", "wiresOf", "(II)I"⟩, 20), (⟨"BoxSpiderModel", "joins", "(II)V"⟩, 20), (⟨"BoxSpiderModel", "withinOf", "(II)I"⟩, 20), (⟨"BoxSpiderModel", "toldOf", "(IIII)I"⟩, 20), (⟨"BoxSpiderModel", "snailOf", "(IIII)I"⟩, 20), (⟨"BoxSpiderModel", "threadOf", "(IIII)I"⟩, 20), (⟨"BoxSpiderModel", "fliesOf", "(IIII)I"⟩, 20), (⟨"BoxSpiderModel", "barred", "()I"⟩, 20), (⟨"BoxSpiderModel", "unlike", "()I"⟩, 20)]
theorem lw_r6 : ∀ q ∈ lw_privs_6, lw_okq q := List.forall_mem_cons.mpr ⟨lw_p80, List.forall_mem_cons.mpr ⟨lw_p81, List.forall_mem_cons.mpr ⟨lw_p82, List.forall_mem_cons.mpr ⟨lw_p83, List.forall_mem_cons.mpr ⟨lw_p84, List.forall_mem_cons.mpr ⟨lw_p85, List.forall_mem_cons.mpr ⟨lw_p86, List.forall_mem_cons.mpr ⟨lw_p87, List.forall_mem_cons.mpr ⟨lw_p88, fun _ h => absurd h List.not_mem_nil⟩⟩⟩⟩⟩⟩⟩⟩⟩
def lw_privs : List (MethodName × Nat) := lw_privs_1 ++ (lw_privs_2 ++ (lw_privs_3 ++ (lw_privs_4 ++ (lw_privs_5 ++ (lw_privs_6)))))
def lw_tbl : List Cond := k2_sels lw_privs ++ tables_1
theorem lw_privs_ok : ∀ q ∈ lw_privs, lw_okq q := by
  show ∀ q ∈ lw_privs_1 ++ (lw_privs_2 ++ (lw_privs_3 ++ (lw_privs_4 ++ (lw_privs_5 ++ (lw_privs_6))))), lw_okq q
  exact List.forall_mem_append.mpr ⟨lw_r1, List.forall_mem_append.mpr ⟨lw_r2, List.forall_mem_append.mpr ⟨lw_r3, List.forall_mem_append.mpr ⟨lw_r4, List.forall_mem_append.mpr ⟨lw_r5, lw_r6⟩⟩⟩⟩⟩
def RX0 : String := "BoxSpider$Line"
def TX0 : u_T := fun k => match k with
  | 0 => ("BoxSpider$Line", "fromX", "I", false)
  | 1 => ("BoxSpider$Line", "fromY", "I", false)
  | 2 => ("BoxSpider$Line", "toX", "I", false)
  | _ => ("BoxSpider$Line", "toY", "I", false)
def tyX0 : Nat → FieldType := fun k => match k with
  | 0 => .int
  | 1 => .int
  | 2 => .int
  | _ => .int
abbrev wsX00 : List Cond := u_ws RX0 TX0 4
theorem nmX0 : ∀ a, a < 4 → ∀ b, b < 4 → a ≠ b → (TX0 a).2.1 ≠ (TX0 b).2.1 := by decide +kernel
theorem tyX0_ok : ∀ k, k < 4 → parseFieldDescriptor (TX0 k).2.2.1 = some (tyX0 k) := by decide +kernel
def RX1 : String := "BoxSpider$Rolls"
def TX1 : u_T := fun k => match k with
  | 0 => ("BoxSpider$Rolls", "bytes", "[I", true)
  | _ => ("BoxSpider$Rolls", "size", "I", false)
def tyX1 : Nat → FieldType := fun k => match k with
  | 0 => .array .int
  | _ => .int
abbrev wsX10 : List Cond := u_ws RX1 TX1 2
theorem nmX1 : ∀ a, a < 2 → ∀ b, b < 2 → a ≠ b → (TX1 a).2.1 ≠ (TX1 b).2.1 := by decide +kernel
theorem tyX1_ok : ∀ k, k < 2 → parseFieldDescriptor (TX1 k).2.2.1 = some (tyX1 k) := by decide +kernel
def RX2 : String := "BoxSpider$Room"
def TX2 : u_T := fun k => match k with
  | 0 => ("BoxSpider$Room", "spans", "[I", true)
  | 1 => ("BoxSpider$Room", "xs", "[I", true)
  | 2 => ("BoxSpider$Room", "ys", "[I", true)
  | 3 => ("BoxSpider$Room", "zs", "[I", true)
  | 4 => ("BoxSpider$Room", "bars", "[I", true)
  | 5 => ("BoxSpider$Room", "tried", "LBoxSpider$Spot;", true)
  | _ => ("BoxSpider$Room", "changes", "I", false)
def tyX2 : Nat → FieldType := fun k => match k with
  | 0 => .array .int
  | 1 => .array .int
  | 2 => .array .int
  | 3 => .array .int
  | 4 => .array .int
  | 5 => .object "BoxSpider$Spot"
  | _ => .int
abbrev wsX20 : List Cond := u_ws RX2 TX2 7
theorem nmX2 : ∀ a, a < 7 → ∀ b, b < 7 → a ≠ b → (TX2 a).2.1 ≠ (TX2 b).2.1 := by decide +kernel
theorem tyX2_ok : ∀ k, k < 7 → parseFieldDescriptor (TX2 k).2.2.1 = some (tyX2 k) := by decide +kernel
def RX3 : String := "BoxSpider$Search"
def TX3 : u_T := fun k => match k with
  | 0 => ("BoxSpider$Search", "room", "LBoxSpider$Room;", true)
  | 1 => ("BoxSpider$Search", "from", "LBoxSpider$Spot;", true)
  | 2 => ("BoxSpider$Search", "to", "LBoxSpider$Spot;", true)
  | 3 => ("BoxSpider$Search", "line", "LBoxSpider$Line;", true)
  | 4 => ("BoxSpider$Search", "stands", "[LBoxSpider$Stand;", true)
  | 5 => ("BoxSpider$Search", "rolled", "[I", true)
  | 6 => ("BoxSpider$Search", "goals", "I", false)
  | 7 => ("BoxSpider$Search", "length", "I", false)
  | 8 => ("BoxSpider$Search", "tally", "I", false)
  | 9 => ("BoxSpider$Search", "row", "I", false)
  | _ => ("BoxSpider$Search", "rowWalls", "I", false)
def tyX3 : Nat → FieldType := fun k => match k with
  | 0 => .object "BoxSpider$Room"
  | 1 => .object "BoxSpider$Spot"
  | 2 => .object "BoxSpider$Spot"
  | 3 => .object "BoxSpider$Line"
  | 4 => .array (.object "BoxSpider$Stand")
  | 5 => .array .int
  | 6 => .int
  | 7 => .int
  | 8 => .int
  | 9 => .int
  | _ => .int
abbrev wsX30 : List Cond := u_ws RX3 TX3 11
theorem nmX3 : ∀ a, a < 11 → ∀ b, b < 11 → a ≠ b → (TX3 a).2.1 ≠ (TX3 b).2.1 := by decide +kernel
theorem tyX3_ok : ∀ k, k < 11 → parseFieldDescriptor (TX3 k).2.2.1 = some (tyX3 k) := by decide +kernel
def RX4 : String := "BoxSpider$Sheet"
def TX4 : u_T := fun k => match k with
  | 0 => ("BoxSpider$Sheet", "items", "[I", true)
  | 1 => ("BoxSpider$Sheet", "form", "I", false)
  | _ => ("BoxSpider$Sheet", "size", "I", false)
def tyX4 : Nat → FieldType := fun k => match k with
  | 0 => .array .int
  | 1 => .int
  | _ => .int
abbrev wsX40 : List Cond := u_ws RX4 TX4 3
theorem nmX4 : ∀ a, a < 3 → ∀ b, b < 3 → a ≠ b → (TX4 a).2.1 ≠ (TX4 b).2.1 := by decide +kernel
theorem tyX4_ok : ∀ k, k < 3 → parseFieldDescriptor (TX4 k).2.2.1 = some (tyX4 k) := by decide +kernel
def RX5 : String := "BoxSpider$Spot"
def TX5 : u_T := fun k => match k with
  | _ => ("BoxSpider$Spot", "away", "[I", true)
def tyX5 : Nat → FieldType := fun k => match k with
  | _ => .array .int
abbrev wsX50 : List Cond := u_ws RX5 TX5 1
theorem nmX5 : ∀ a, a < 1 → ∀ b, b < 1 → a ≠ b → (TX5 a).2.1 ≠ (TX5 b).2.1 := by decide +kernel
theorem tyX5_ok : ∀ k, k < 1 → parseFieldDescriptor (TX5 k).2.2.1 = some (tyX5 k) := by decide +kernel
def RX6 : String := "BoxSpider$Stand"
def TX6 : u_T := fun k => match k with
  | 0 => ("BoxSpider$Stand", "below", "I", false)
  | 1 => ("BoxSpider$Stand", "east", "I", false)
  | 2 => ("BoxSpider$Stand", "north", "I", false)
  | 3 => ("BoxSpider$Stand", "x", "I", false)
  | 4 => ("BoxSpider$Stand", "y", "I", false)
  | 5 => ("BoxSpider$Stand", "wide", "I", false)
  | 6 => ("BoxSpider$Stand", "deep", "I", false)
  | _ => ("BoxSpider$Stand", "tall", "I", false)
def tyX6 : Nat → FieldType := fun k => match k with
  | 0 => .int
  | 1 => .int
  | 2 => .int
  | 3 => .int
  | 4 => .int
  | 5 => .int
  | 6 => .int
  | _ => .int
abbrev wsX60 : List Cond := u_ws RX6 TX6 8
theorem nmX6 : ∀ a, a < 8 → ∀ b, b < 8 → a ≠ b → (TX6 a).2.1 ≠ (TX6 b).2.1 := by decide +kernel
theorem tyX6_ok : ∀ k, k < 8 → parseFieldDescriptor (TX6 k).2.2.1 = some (tyX6 k) := by decide +kernel
def RX7 : String := "BoxSpider$Table"
def TX7 : u_T := fun k => match k with
  | 0 => ("BoxSpider$Table", "room", "LBoxSpider$Room;", true)
  | 1 => ("BoxSpider$Table", "search", "LBoxSpider$Search;", true)
  | 2 => ("BoxSpider$Table", "lengths", "[I", true)
  | 3 => ("BoxSpider$Table", "tallies", "[I", true)
  | 4 => ("BoxSpider$Table", "rows", "[I", true)
  | _ => ("BoxSpider$Table", "madeAt", "[I", true)
def tyX7 : Nat → FieldType := fun k => match k with
  | 0 => .object "BoxSpider$Room"
  | 1 => .object "BoxSpider$Search"
  | 2 => .array .int
  | 3 => .array .int
  | 4 => .array .int
  | _ => .array .int
abbrev wsX70 : List Cond := u_ws RX7 TX7 6
theorem nmX7 : ∀ a, a < 6 → ∀ b, b < 6 → a ≠ b → (TX7 a).2.1 ≠ (TX7 b).2.1 := by decide +kernel
theorem tyX7_ok : ∀ k, k < 6 → parseFieldDescriptor (TX7 k).2.2.1 = some (tyX7 k) := by decide +kernel
def RX8 : String := "BoxSpider$Wiring"
def TX8 : u_T := fun k => match k with
  | 0 => ("BoxSpider$Wiring", "groups", "[I", true)
  | 1 => ("BoxSpider$Wiring", "pairs", "[I", true)
  | 2 => ("BoxSpider$Wiring", "tally", "I", false)
  | _ => ("BoxSpider$Wiring", "greatest", "I", false)
def tyX8 : Nat → FieldType := fun k => match k with
  | 0 => .array .int
  | 1 => .array .int
  | 2 => .int
  | _ => .int
abbrev wsX80 : List Cond := u_ws RX8 TX8 4
theorem nmX8 : ∀ a, a < 4 → ∀ b, b < 4 → a ≠ b → (TX8 a).2.1 ≠ (TX8 b).2.1 := by decide +kernel
theorem tyX8_ok : ∀ k, k < 4 → parseFieldDescriptor (TX8 k).2.2.1 = some (tyX8 k) := by decide +kernel
def RX9 : String := "BoxSpider"
def TX9 : u_T := fun k => match k with
  | 0 => ("BoxSpider", "room", "LBoxSpider$Room;", true)
  | 1 => ("BoxSpider", "rolls", "LBoxSpider$Rolls;", true)
  | 2 => ("BoxSpider", "search", "LBoxSpider$Search;", true)
  | 3 => ("BoxSpider", "table", "LBoxSpider$Table;", true)
  | 4 => ("BoxSpider", "wiring", "LBoxSpider$Wiring;", true)
  | 5 => ("BoxSpider", "sheets", "[LBoxSpider$Sheet;", true)
  | 6 => ("BoxSpider", "stand", "LBoxSpider$Stand;", true)
  | 7 => ("BoxSpider", "line", "LBoxSpider$Line;", true)
  | 8 => ("BoxSpider", "spot", "LBoxSpider$Spot;", true)
  | 9 => ("BoxSpider", "trialSpans", "[I", true)
  | _ => ("BoxSpider", "finding", "I", false)
def tyX9 : Nat → FieldType := fun k => match k with
  | 0 => .object "BoxSpider$Room"
  | 1 => .object "BoxSpider$Rolls"
  | 2 => .object "BoxSpider$Search"
  | 3 => .object "BoxSpider$Table"
  | 4 => .object "BoxSpider$Wiring"
  | 5 => .array (.object "BoxSpider$Sheet")
  | 6 => .object "BoxSpider$Stand"
  | 7 => .object "BoxSpider$Line"
  | 8 => .object "BoxSpider$Spot"
  | 9 => .array .int
  | _ => .int
abbrev wsX90 : List Cond := u_ws RX9 TX9 11
theorem nmX9 : ∀ a, a < 11 → ∀ b, b < 11 → a ≠ b → (TX9 a).2.1 ≠ (TX9 b).2.1 := by decide +kernel
theorem tyX9_ok : ∀ k, k < 11 → parseFieldDescriptor (TX9 k).2.2.1 = some (tyX9 k) := by decide +kernel
def RX10 : String := "BoxSpiderModel"
def TX10 : u_T := fun k => match k with
  | 0 => ("BoxSpiderModel", "forms", "[I", true)
  | 1 => ("BoxSpiderModel", "sizes", "[I", true)
  | 2 => ("BoxSpiderModel", "items", "[I", true)
  | 3 => ("BoxSpiderModel", "moved", "[I", true)
  | 4 => ("BoxSpiderModel", "latest", "I", false)
  | 5 => ("BoxSpiderModel", "sides", "[I", true)
  | 6 => ("BoxSpiderModel", "places", "[I", true)
  | 7 => ("BoxSpiderModel", "bars", "[I", true)
  | 8 => ("BoxSpiderModel", "text", "[I", true)
  | 9 => ("BoxSpiderModel", "typed", "I", false)
  | 10 => ("BoxSpiderModel", "stand", "[I", true)
  | 11 => ("BoxSpiderModel", "edges", "[I", true)
  | 12 => ("BoxSpiderModel", "shortest", "I", false)
  | 13 => ("BoxSpiderModel", "wayMany", "I", false)
  | 14 => ("BoxSpiderModel", "bestRow", "[I", true)
  | 15 => ("BoxSpiderModel", "row", "[I", true)
  | 16 => ("BoxSpiderModel", "pick", "[I", true)
  | 17 => ("BoxSpiderModel", "lengths", "[I", true)
  | 18 => ("BoxSpiderModel", "groups", "[I", true)
  | _ => ("BoxSpiderModel", "reach", "[I", true)
def tyX10 : Nat → FieldType := fun k => match k with
  | 0 => .array .int
  | 1 => .array .int
  | 2 => .array .int
  | 3 => .array .int
  | 4 => .int
  | 5 => .array .int
  | 6 => .array .int
  | 7 => .array .int
  | 8 => .array .int
  | 9 => .int
  | 10 => .array .int
  | 11 => .array .int
  | 12 => .int
  | 13 => .int
  | 14 => .array .int
  | 15 => .array .int
  | 16 => .array .int
  | 17 => .array .int
  | 18 => .array .int
  | _ => .array .int
abbrev wsX100 : List Cond := u_ws RX10 TX10 20
theorem nmX10 : ∀ a, a < 20 → ∀ b, b < 20 → a ≠ b → (TX10 a).2.1 ≠ (TX10 b).2.1 := by decide +kernel
theorem tyX10_ok : ∀ k, k < 20 → parseFieldDescriptor (TX10 k).2.2.1 = some (tyX10 k) := by decide +kernel
abbrev vwCl : List vw_C := [(RX0, TX0, 4), (RX1, TX1, 2), (RX2, TX2, 7), (RX3, TX3, 11), (RX4, TX4, 3), (RX5, TX5, 1), (RX6, TX6, 8), (RX7, TX7, 6), (RX8, TX8, 4), (RX9, TX9, 11), (RX10, TX10, 20)]
end
section
def cn (k : Nat) : String := (["BoxSpider$Line", "BoxSpider$Rolls", "BoxSpider$Room", "BoxSpider$Search", "BoxSpider$Sheet", "BoxSpider$Spot", "BoxSpider$Stand", "BoxSpider$Table", "BoxSpider$Wiring", "BoxSpider", "BoxSpiderModel", "BoxSpiderLaw", "java/lang/Object", "java/lang/Math", "java/lang/Integer"] : List String).getD k ""
def fT (ci : Nat) : u_T := match ci with
  | 0 => TX0
  | 1 => TX1
  | 2 => TX2
  | 3 => TX3
  | 4 => TX4
  | 5 => TX5
  | 6 => TX6
  | 7 => TX7
  | 8 => TX8
  | 9 => TX9
  | _ => TX10
def fN (ci : Nat) : Nat := ([4, 2, 7, 11, 3, 1, 8, 6, 4, 11, 20] : List Nat).getD ci 0
/-- which fields are ints -/
def fI (ci k : Nat) : Bool := (([[true, true, true, true], [false, true], [false, false, false, false, false, false, true], [false, false, false, false, false, false, true, true, true, true, true], [false, true, true], [false], [true, true, true, true, true, true, true, true], [false, false, false, false, false, false], [false, false, true, true], [false, false, false, false, false, false, false, false, false, false, true], [false, false, false, false, true, false, false, false, false, true, false, false, true, true, false, false, false, false, false, false]] : List (List Bool)).getD ci []).getD k false
/-- what a new object holds -/
def dfl (ci : Nat) : List Value := ([[.int 0, .int 0, .int 0, .int 0], [.null, .int 0], [.null, .null, .null, .null, .null, .null, .int 0], [.null, .null, .null, .null, .null, .null, .int 0, .int 0, .int 0, .int 0, .int 0], [.null, .int 0, .int 0], [.null], [.int 0, .int 0, .int 0, .int 0, .int 0, .int 0, .int 0, .int 0], [.null, .null, .null, .null, .null, .null], [.null, .null, .int 0, .int 0], [.null, .null, .null, .null, .null, .null, .null, .null, .null, .null, .int 0], [.null, .null, .null, .null, .int 0, .null, .null, .null, .null, .int 0, .null, .null, .int 0, .int 0, .null, .null, .null, .null, .null, .null]] : List (List Value)).getD ci []
def flk : List (Nat × Nat × Nat × Nat) := [(5, 9, 5, 0), (2, 9, 2, 0), (2, 15, 2, 1), (2, 18, 2, 2), (2, 21, 2, 3), (2, 24, 2, 4), (2, 30, 2, 5), (2, 34, 2, 6), (1, 9, 1, 0), (1, 15, 1, 1), (0, 9, 0, 0), (0, 15, 0, 1), (0, 18, 0, 2), (0, 21, 0, 3), (6, 9, 6, 0), (6, 15, 6, 1), (6, 18, 6, 2), (6, 21, 6, 3), (6, 24, 6, 4), (6, 27, 6, 5), (6, 30, 6, 6), (6, 33, 6, 7), (3, 38, 3, 0), (3, 12, 3, 1), (3, 18, 3, 2), (3, 24, 3, 3), (3, 30, 3, 4), (3, 34, 3, 5), (3, 47, 3, 6), (3, 51, 3, 7), (3, 54, 3, 8), (3, 57, 3, 9), (3, 60, 3, 10), (7, 24, 7, 0), (7, 28, 7, 1), (7, 9, 7, 2), (7, 15, 7, 3), (7, 18, 7, 4), (7, 21, 7, 5), (8, 9, 8, 0), (8, 15, 8, 1), (8, 18, 8, 2), (8, 22, 8, 3), (4, 9, 4, 0), (4, 15, 4, 1), (4, 19, 4, 2), (9, 10, 9, 0), (9, 19, 9, 1), (9, 28, 9, 2), (9, 37, 9, 3), (9, 44, 9, 4), (9, 50, 9, 5), (9, 57, 9, 6), (9, 64, 9, 7), (9, 71, 9, 8), (9, 75, 9, 9), (9, 79, 9, 10), (10, 7, 10, 0), (10, 13, 10, 1), (10, 16, 10, 2), (10, 19, 10, 3), (10, 62, 10, 4), (10, 22, 10, 5), (10, 25, 10, 6), (10, 28, 10, 7), (10, 31, 10, 8), (10, 136, 10, 9), (10, 34, 10, 10), (10, 37, 10, 11), (10, 196, 10, 12), (10, 199, 10, 13), (10, 40, 10, 14), (10, 43, 10, 15), (10, 46, 10, 16), (10, 49, 10, 17), (10, 52, 10, 18), (10, 55, 10, 19)]
def nfl : List (Nat × Nat × Nat × Nat) := [(6, 40, 5, 0), (7, 51, 2, 0), (9, 285, 2, 0), (9, 104, 2, 1), (9, 107, 2, 2), (9, 110, 2, 3), (3, 82, 2, 4), (7, 32, 2, 6), (9, 353, 1, 0), (9, 142, 1, 1), (3, 75, 6, 0), (9, 167, 6, 0), (0, 24, 6, 3), (9, 170, 6, 3), (0, 29, 6, 4), (9, 173, 6, 4), (0, 35, 6, 5), (9, 176, 6, 5), (0, 32, 6, 6), (9, 179, 6, 6), (7, 38, 3, 1), (9, 369, 3, 1), (7, 48, 3, 2), (9, 376, 3, 2), (7, 58, 3, 7), (9, 386, 3, 7), (7, 61, 3, 8), (7, 64, 3, 9), (8, 29, 7, 2), (9, 192, 7, 2), (9, 198, 7, 3), (9, 201, 7, 4), (9, 223, 8, 1), (9, 217, 8, 2), (9, 220, 8, 3), (9, 139, 4, 0), (9, 266, 4, 1), (9, 131, 4, 2)]
def mlk : List (Nat × Nat × Nat) := [(11, 9, 0), (9, 1, 500), (2, 3, 500), (5, 3, 500), (1, 3, 500), (3, 3, 500), (0, 3, 500), (6, 3, 500), (7, 3, 500), (8, 3, 500), (4, 3, 500), (11, 13, 10), (9, 84, 11), (2, 46, 13), (2, 50, 16), (11, 18, 17), (9, 92, 18), (11, 23, 19), (11, 27, 22), (9, 121, 23), (9, 128, 25), (9, 134, 502), (11, 32, 26), (11, 36, 28), (11, 41, 29), (11, 45, 30), (1, 19, 32), (11, 49, 33), (9, 150, 34), (11, 54, 37), (1, 23, 31), (9, 164, 39), (11, 58, 42), (11, 62, 46), (3, 71, 49), (3, 78, 50), (3, 115, 55), (6, 36, 41), (11, 66, 58), (11, 70, 59), (11, 74, 61), (11, 78, 62), (9, 207, 63), (9, 359, 503), (11, 82, 64), (11, 86, 65), (8, 25, 68), (8, 38, 69), (11, 90, 70), (9, 226, 71), (9, 229, 72), (11, 94, 73), (9, 239, 74), (11, 98, 75), (9, 245, 76), (9, 248, 77), (9, 366, 504), (11, 102, 78), (9, 255, 79), (9, 279, 501), (11, 106, 80), (11, 110, 81), (9, 260, 82), (11, 114, 84), (11, 118, 85), (4, 22, 24), (11, 122, 88), (11, 126, 89), (11, 131, 91), (11, 135, 92), (2, 54, 94), (2, 60, 96), (11, 139, 97), (9, 298, 92), (9, 301, 30), (9, 304, 19), (9, 307, 46), (9, 310, 58), (9, 313, 59), (9, 316, 61), (9, 319, 70), (9, 322, 42), (9, 325, 37), (9, 328, 62), (9, 331, 64), (9, 334, 65), (9, 337, 73), (9, 340, 75), (9, 343, 78), (9, 346, 80), (11, 12, 98), (10, 1, 500), (11, 113, 99), (10, 68, 100), (10, 58, 101), (10, 74, 102), (11, 117, 103), (11, 121, 104), (10, 78, 105), (10, 82, 106), (11, 125, 107), (11, 130, 108), (11, 17, 109), (10, 104, 110), (10, 98, 111), (10, 94, 112), (10, 91, 113), (10, 107, 114), (11, 22, 115), (10, 111, 116), (11, 26, 117), (10, 121, 118), (10, 118, 119), (10, 114, 120), (11, 31, 121), (10, 124, 115), (11, 53, 122), (10, 128, 123), (10, 131, 124), (11, 35, 125), (11, 40, 126), (11, 44, 127), (11, 48, 128), (10, 139, 129), (11, 57, 130), (10, 175, 131), (10, 142, 128), (10, 180, 132), (10, 168, 133), (10, 161, 134), (10, 164, 135), (10, 146, 136), (10, 149, 137), (10, 172, 138), (11, 61, 139), (10, 186, 140), (10, 183, 141), (10, 152, 142), (11, 65, 143), (10, 221, 144), (10, 217, 145), (10, 205, 146), (10, 208, 147), (10, 189, 148), (10, 192, 149), (10, 155, 150), (10, 158, 151), (10, 211, 152), (10, 202, 153), (10, 214, 154), (11, 69, 155), (10, 224, 156), (11, 73, 157), (10, 227, 158), (11, 77, 159), (10, 230, 160), (11, 81, 161), (10, 233, 162), (11, 85, 163), (10, 236, 164), (11, 89, 165), (10, 242, 166), (10, 239, 167), (11, 93, 168), (10, 247, 169), (11, 97, 170), (10, 250, 171), (11, 101, 172), (10, 257, 173), (11, 105, 174), (10, 260, 175), (11, 109, 176), (10, 266, 177), (11, 134, 178), (11, 138, 179), (10, 269, 180), (10, 272, 181), (11, 143, 182), (10, 279, 179)]
def nml : List (Nat × Nat × Nat) := [(9, 9, 1), (2, 29, 2), (9, 18, 3), (9, 25, 4), (3, 11, 2), (3, 23, 5), (3, 42, 6), (9, 34, 7), (9, 43, 8), (9, 56, 6), (9, 63, 5), (9, 70, 2), (9, 83, 9), (9, 88, 12), (2, 38, 14), (2, 42, 15), (9, 96, 13), (9, 100, 16), (9, 113, 20), (9, 117, 21), (9, 124, 24), (9, 143, 27), (9, 147, 31), (9, 153, 35), (9, 157, 36), (9, 161, 38), (9, 349, 40), (9, 356, 32), (9, 252, 41), (9, 182, 43), (9, 185, 44), (9, 189, 45), (9, 195, 47), (7, 44, 20), (7, 54, 48), (3, 43, 21), (3, 63, 43), (3, 67, 40), (3, 95, 44), (3, 99, 45), (3, 102, 51), (3, 105, 52), (3, 108, 53), (3, 111, 54), (3, 87, 56), (3, 91, 57), (9, 204, 60), (9, 210, 66), (9, 213, 67), (8, 34, 47), (9, 232, 51), (9, 236, 52), (9, 362, 54), (9, 242, 53), (9, 372, 14), (9, 379, 15), (9, 382, 48), (9, 263, 83), (9, 269, 86), (9, 272, 87), (9, 276, 90), (9, 288, 93), (9, 291, 95)]
def kcI : List (Nat × Nat × Int32) := [(9, 259, 1103515245), (9, 275, -2147483648), (14, 265, 1431655765), (14, 266, 858993459), (14, 267, 252645135), (10, 86, -2147483648), (10, 263, 1103515245)]
def kcL : List (Nat × Nat × Int64) := [(9, 294, 17), (9, 296, 31), (10, 66, 3), (10, 72, 2), (10, 102, 30), (10, 87, 7), (10, 89, 5), (10, 134, 255), (10, 178, 4), (10, 245, 9999), (10, 253, -9), (10, 255, 9), (10, 264, 99), (10, 275, 17), (10, 277, 31)]
def kcl : List (Nat × Nat × Nat) := [(11, 7, 9), (9, 7, 2), (2, 27, 5), (9, 16, 1), (9, 23, 3), (3, 9, 5), (3, 21, 0), (3, 28, 6), (9, 32, 7), (9, 41, 8), (9, 48, 4), (9, 54, 6), (9, 61, 0), (9, 68, 5), (11, 10, 10)]
def nMeth : Nat := 183
def mC : List Nat := [9, 2, 5, 1, 3, 0, 6, 7, 8, 4, 9, 9, 2, 2, 5, 5, 2, 9, 9, 9, 2, 5, 9, 9, 4, 9, 9, 1, 9, 9, 9, 1, 1, 9, 9, 2, 2, 9, 1, 9, 6, 6, 9, 5, 6, 6, 9, 7, 3, 3, 3, 0, 0, 0, 0, 3, 6, 6, 9, 9, 3, 9, 9, 9, 9, 9, 8, 8, 8, 8, 9, 9, 9, 9, 9, 9, 9, 9, 9, 9, 9, 9, 9, 4, 9, 9, 4, 4, 9, 9, 4, 9, 9, 2, 14, 2, 2, 9, 10, 10, 10, 10, 10, 10, 10, 10, 10, 10, 10, 10, 10, 10, 10, 10, 10, 10, 10, 10, 10, 10, 10, 10, 10, 10, 10, 10, 10, 10, 10, 10, 10, 10, 10, 10, 10, 10, 10, 10, 10, 10, 10, 10, 10, 10, 10, 10, 10, 10, 10, 10, 10, 10, 10, 10, 10, 10, 10, 10, 10, 10, 10, 10, 10, 10, 10, 10, 10, 10, 10, 10, 10, 10, 10, 10, 10, 10, 10, 10, 10, 10, 10, 10, 10, 11]
def mS : List (String × String) := [("<init>", "()V"), ("<init>", "()V"), ("<init>", "()V"), ("<init>", "()V"), ("<init>", "(LBoxSpider$Room;)V"), ("<init>", "()V"), ("<init>", "()V"), ("<init>", "(LBoxSpider$Room;LBoxSpider$Search;)V"), ("<init>", "()V"), ("<init>", "()V"), ("side", "(II)I"), ("axisOf", "(I)I"), ("stretch", "(II)I"), ("holds", "(III)Z"), ("set", "([IIII)V"), ("isOnBox", "()Z"), ("move", "(IIII)V"), ("place", "(IIII)I"), ("isPlace", "(I)Z"), ("at", "(II)I"), ("spotOf", "(ILBoxSpider$Spot;)V"), ("wallBits", "()I"), ("read", "(I)I"), ("isSheet", "(I)Z"), ("isLost", "()Z"), ("found", "(I)I"), ("type", "(I)I"), ("append", "(I)V"), ("undo", "()I"), ("wipe", "()I"), ("fault", "()I"), ("firstWrong", "()I"), ("rollOf", "(I)I"), ("bar", "(III)I"), ("isWall", "(I)Z"), ("isBarred", "(II)Z"), ("setBar", "(IIZ)V"), ("laidOut", "(II)I"), ("valid", "()I"), ("standBehind", "(I)V"), ("start", "(I[I)V"), ("roll", "(I)V"), ("lies", "(III)I"), ("isOn", "(I)Z"), ("planeX", "(LBoxSpider$Spot;)I"), ("planeY", "(LBoxSpider$Spot;)I"), ("shortest", "(II)I"), ("look", "(II)I"), ("find", "([I)V"), ("extend", "(II)V"), ("weigh", "(I)V"), ("begin", "(II)V"), ("end", "(II)V"), ("square", "()I"), ("meets", "(LBoxSpider$Stand;I)Z"), ("packedRow", "(I)I"), ("rollTo", "(I)I"), ("follow", "(LBoxSpider$Stand;I)V"), ("ways", "(II)I"), ("face", "(III)I"), ("wallInRow", "(II)I"), ("farthest", "(I)I"), ("sit", "()I"), ("reachOf", "(I)I"), ("nearer", "(II)I"), ("wires", "(II)I"), ("clear", "()V"), ("joinNext", "(LBoxSpider$Table;I)Z"), ("isOpen", "(II)Z"), ("unite", "(II)V"), ("within", "(II)I"), ("isLength", "(I)Z"), ("isNear", "(III)Z"), ("told", "(IIII)I"), ("lineStaysWithin", "(II)Z"), ("snail", "(IIII)I"), ("isSlope", "(I)Z"), ("nextRoll", "(IIII)I"), ("thread", "(IIII)I"), ("lengthIfHigh", "(III)I"), ("flies", "(IIII)I"), ("sheet", "(III)I"), ("isForm", "(I)Z"), ("renew", "(II)V"), ("lose", "(I)I"), ("lay", "(IIII)I"), ("findingAt", "(II)I"), ("put", "(II)V"), ("get", "(III)I"), ("copy", "(IIIII)I"), ("hasRun", "(II)Z"), ("write", "(II)I"), ("count", "(I)I"), ("barredEdges", "()I"), ("bitCount", "(I)I"), ("unlikePlaces", "()I"), ("hasLikeBefore", "(I)Z"), ("digest", "()J"), ("<init>", "()V"), ("sheet", "(III)I"), ("isSheet", "(I)Z"), ("in", "(JJJ)Z"), ("met", "(I)I"), ("lose", "(I)I"), ("lay", "(IIII)I"), ("lacks", "(III)I"), ("cut", "(II)I"), ("get", "(III)I"), ("copy", "(IIIII)I"), ("side", "(II)I"), ("isThere", "(I)Z"), ("isOnBox", "(III)Z"), ("liesOn", "(IIII)Z"), ("axisOf", "(I)I"), ("puts", "(IIII)V"), ("place", "(IIII)I"), ("isPlace", "(I)Z"), ("at", "(II)I"), ("atOf", "(II)I"), ("facesOf", "(I)I"), ("isOn", "(II)Z"), ("read", "(I)I"), ("bar", "(III)I"), ("isFace", "(I)Z"), ("isTwo", "(I)Z"), ("type", "(I)I"), ("undo", "()I"), ("wipe", "()I"), ("fault", "()I"), ("rollOf", "(I)I"), ("laidOut", "(II)I"), ("rolls", "()I"), ("laidOf", "(II)I"), ("goesTo", "(I)V"), ("begins", "()V"), ("turns", "(II)V"), ("far", "(II)I"), ("southWest", "(II)I"), ("faceAt", "(I)I"), ("lies", "(III)I"), ("liesOf", "(III)I"), ("liesAt", "(III)I"), ("imageOf", "(IIII)I"), ("shortest", "(II)I"), ("shortestOf", "(II)I"), ("findFrom", "(III)V"), ("standsOn", "(I)V"), ("lineOf", "(IIII)I"), ("isIn", "(II)Z"), ("meets", "(IIIII)Z"), ("lesser", "(II)I"), ("greater", "(II)I"), ("keeps", "(II)V"), ("isAhead", "(I)Z"), ("isNew", "(I)Z"), ("ways", "(II)I"), ("waysOf", "(II)I"), ("face", "(III)I"), ("faceOf", "(III)I"), ("farthest", "(I)I"), ("farthestOf", "(I)I"), ("sit", "()I"), ("sitNow", "()I"), ("nearer", "(II)I"), ("nearerOf", "(II)I"), ("wires", "(II)I"), ("wiresOf", "(II)I"), ("joins", "(II)V"), ("within", "(II)I"), ("withinOf", "(II)I"), ("told", "(IIII)I"), ("toldOf", "(IIII)I"), ("snail", "(IIII)I"), ("snailOf", "(IIII)I"), ("thread", "(IIII)I"), ("threadOf", "(IIII)I"), ("flies", "(IIII)I"), ("fliesOf", "(IIII)I"), ("write", "(II)I"), ("count", "(I)I"), ("barred", "()I"), ("unlike", "()I"), ("digest", "()J"), ("law", "([I)Z")]
def mB : List ByteArray := [prog_1_method_1_code, prog_4_method_1_code, prog_7_method_1_code, prog_3_method_1_code, prog_5_method_1_code, prog_2_method_1_code, prog_8_method_1_code, prog_9_method_1_code, prog_10_method_1_code, prog_6_method_1_code, prog_1_method_2_code, prog_1_method_39_code, prog_4_method_5_code, prog_4_method_2_code, prog_7_method_2_code, prog_7_method_4_code, prog_4_method_3_code, prog_1_method_3_code, prog_1_method_33_code, prog_1_method_4_code, prog_4_method_4_code, prog_7_method_5_code, prog_1_method_5_code, prog_1_method_37_code, prog_6_method_2_code, prog_1_method_40_code, prog_1_method_6_code, prog_3_method_3_code, prog_1_method_7_code, prog_1_method_8_code, prog_1_method_9_code, prog_3_method_4_code, prog_3_method_2_code, prog_1_method_10_code, prog_1_method_34_code, prog_4_method_6_code, prog_4_method_7_code, prog_1_method_11_code, prog_3_method_5_code, prog_1_method_41_code, prog_8_method_2_code, prog_8_method_4_code, prog_1_method_12_code, prog_7_method_3_code, prog_8_method_6_code, prog_8_method_7_code, prog_1_method_13_code, prog_9_method_2_code, prog_5_method_2_code, prog_5_method_3_code, prog_5_method_4_code, prog_2_method_2_code, prog_2_method_3_code, prog_2_method_4_code, prog_2_method_5_code, prog_5_method_5_code, prog_8_method_5_code, prog_8_method_3_code, prog_1_method_14_code, prog_1_method_15_code, prog_5_method_6_code, prog_1_method_16_code, prog_1_method_17_code, prog_1_method_42_code, prog_1_method_18_code, prog_1_method_19_code, prog_10_method_2_code, prog_10_method_3_code, prog_10_method_4_code, prog_10_method_5_code, prog_1_method_20_code, prog_1_method_35_code, prog_1_method_43_code, prog_1_method_21_code, prog_1_method_44_code, prog_1_method_22_code, prog_1_method_36_code, prog_1_method_45_code, prog_1_method_23_code, prog_1_method_46_code, prog_1_method_24_code, prog_1_method_25_code, prog_1_method_38_code, prog_6_method_3_code, prog_1_method_26_code, prog_1_method_27_code, prog_6_method_4_code, prog_6_method_5_code, prog_1_method_28_code, prog_1_method_29_code, prog_6_method_6_code, prog_1_method_30_code, prog_1_method_31_code, prog_4_method_8_code, prog_13_method_49_code, prog_4_method_9_code, prog_4_method_10_code, prog_1_method_32_code, prog_12_method_1_code, prog_12_method_10_code, prog_12_method_9_code, prog_12_method_3_code, prog_12_method_8_code, prog_12_method_11_code, prog_12_method_14_code, prog_12_method_12_code, prog_12_method_13_code, prog_12_method_15_code, prog_12_method_16_code, prog_12_method_24_code, prog_12_method_23_code, prog_12_method_21_code, prog_12_method_20_code, prog_12_method_19_code, prog_12_method_25_code, prog_12_method_26_code, prog_12_method_17_code, prog_12_method_29_code, prog_12_method_28_code, prog_12_method_27_code, prog_12_method_22_code, prog_12_method_30_code, prog_12_method_31_code, prog_12_method_18_code, prog_12_method_4_code, prog_12_method_32_code, prog_12_method_33_code, prog_12_method_34_code, prog_12_method_36_code, prog_12_method_35_code, prog_12_method_48_code, prog_12_method_37_code, prog_12_method_47_code, prog_12_method_46_code, prog_12_method_38_code, prog_12_method_42_code, prog_12_method_39_code, prog_12_method_41_code, prog_12_method_40_code, prog_12_method_50_code, prog_12_method_49_code, prog_12_method_44_code, prog_12_method_43_code, prog_12_method_58_code, prog_12_method_57_code, prog_12_method_56_code, prog_12_method_54_code, prog_12_method_51_code, prog_12_method_5_code, prog_12_method_45_code, prog_12_method_6_code, prog_12_method_7_code, prog_12_method_53_code, prog_12_method_52_code, prog_12_method_55_code, prog_12_method_60_code, prog_12_method_59_code, prog_12_method_62_code, prog_12_method_61_code, prog_12_method_64_code, prog_12_method_63_code, prog_12_method_66_code, prog_12_method_65_code, prog_12_method_68_code, prog_12_method_67_code, prog_12_method_71_code, prog_12_method_70_code, prog_12_method_69_code, prog_12_method_73_code, prog_12_method_72_code, prog_12_method_75_code, prog_12_method_74_code, prog_12_method_77_code, prog_12_method_76_code, prog_12_method_79_code, prog_12_method_78_code, prog_12_method_81_code, prog_12_method_80_code, prog_12_method_82_code, prog_12_method_85_code, prog_12_method_84_code, prog_12_method_83_code, prog_12_method_86_code, code]
def mL : List Nat := [2, 1, 1, 1, 3, 1, 1, 3, 1, 1, 3, 1, 5, 4, 5, 3, 5, 5, 1, 3, 3, 3, 8, 1, 1, 2, 2, 2, 1, 2, 1, 2, 1, 5, 1, 3, 4, 3, 1, 3, 3, 4, 4, 2, 2, 2, 3, 4, 3, 7, 4, 3, 3, 1, 10, 4, 2, 3, 3, 4, 2, 6, 5, 5, 7, 5, 2, 7, 6, 4, 5, 1, 5, 5, 6, 9, 1, 9, 8, 4, 8, 4, 1, 4, 3, 6, 3, 3, 5, 8, 3, 6, 2, 3, 1, 3, 3, 6, 2, 5, 1, 6, 2, 2, 6, 4, 2, 4, 7, 5, 2, 7, 7, 1, 5, 5, 1, 3, 3, 4, 3, 5, 5, 1, 1, 2, 1, 2, 2, 1, 3, 1, 3, 3, 2, 13, 4, 3, 5, 4, 4, 4, 8, 3, 4, 5, 6, 12, 2, 17, 2, 2, 5, 4, 4, 3, 3, 4, 4, 2, 6, 1, 8, 3, 7, 3, 12, 5, 3, 5, 5, 6, 6, 15, 5, 9, 5, 8, 5, 2, 4, 5, 6, 4]
def mR : List (Option FieldType) := [none, none, none, none, none, none, none, none, none, none, (some .int), (some .int), (some .int), (some .boolean), none, (some .boolean), none, (some .int), (some .boolean), (some .int), none, (some .int), (some .int), (some .boolean), (some .boolean), (some .int), (some .int), none, (some .int), (some .int), (some .int), (some .int), (some .int), (some .int), (some .boolean), (some .boolean), none, (some .int), (some .int), none, none, none, (some .int), (some .boolean), (some .int), (some .int), (some .int), (some .int), none, none, none, none, none, (some .int), (some .boolean), (some .int), (some .int), none, (some .int), (some .int), (some .int), (some .int), (some .int), (some .int), (some .int), (some .int), none, (some .boolean), (some .boolean), none, (some .int), (some .boolean), (some .boolean), (some .int), (some .boolean), (some .int), (some .boolean), (some .int), (some .int), (some .int), (some .int), (some .int), (some .boolean), none, (some .int), (some .int), (some .int), none, (some .int), (some .int), (some .boolean), (some .int), (some .int), (some .int), (some .int), (some .int), (some .boolean), (some .long), none, (some .int), (some .boolean), (some .boolean), (some .int), (some .int), (some .int), (some .int), (some .int), (some .int), (some .int), (some .int), (some .boolean), (some .boolean), (some .boolean), (some .int), none, (some .int), (some .boolean), (some .int), (some .int), (some .int), (some .boolean), (some .int), (some .int), (some .boolean), (some .boolean), (some .int), (some .int), (some .int), (some .int), (some .int), (some .int), (some .int), (some .int), none, none, none, (some .int), (some .int), (some .int), (some .int), (some .int), (some .int), (some .int), (some .int), (some .int), none, none, (some .int), (some .boolean), (some .boolean), (some .int), (some .int), none, (some .boolean), (some .boolean), (some .int), (some .int), (some .int), (some .int), (some .int), (some .int), (some .int), (some .int), (some .int), (some .int), (some .int), (some .int), none, (some .int), (some .int), (some .int), (some .int), (some .int), (some .int), (some .int), (some .int), (some .int), (some .int), (some .int), (some .int), (some .int), (some .int), (some .long), (some .boolean)]
def mP : List Nat := [0, 0, 0, 0, 1, 0, 0, 2, 0, 0, 2, 1, 2, 3, 4, 0, 4, 4, 1, 2, 2, 0, 1, 1, 0, 1, 1, 1, 0, 0, 0, 0, 1, 3, 1, 2, 3, 2, 0, 1, 2, 1, 3, 1, 1, 1, 2, 2, 1, 2, 1, 2, 2, 0, 2, 1, 1, 2, 2, 3, 2, 1, 0, 1, 2, 2, 0, 2, 2, 2, 2, 1, 3, 4, 2, 4, 1, 4, 4, 3, 4, 3, 1, 2, 1, 4, 2, 2, 3, 5, 2, 2, 1, 0, 1, 0, 1, 0, 0, 3, 1, 3, 1, 1, 4, 3, 2, 3, 5, 2, 1, 3, 4, 1, 4, 4, 1, 2, 2, 1, 2, 1, 3, 1, 1, 1, 0, 0, 0, 1, 2, 0, 2, 1, 0, 2, 2, 2, 1, 3, 3, 3, 4, 2, 2, 3, 1, 4, 2, 5, 2, 2, 2, 1, 1, 2, 2, 3, 3, 1, 1, 0, 0, 2, 2, 2, 2, 2, 2, 2, 4, 4, 4, 4, 4, 4, 4, 4, 2, 1, 0, 0, 0, 1]
def mX : List Bool := [false, false, false, false, false, false, false, false, false, false, false, true, false, false, false, false, false, false, true, false, false, false, false, true, false, false, false, false, false, false, false, false, true, false, true, false, false, false, false, false, false, false, false, false, false, false, false, false, false, false, false, false, false, false, false, false, false, false, false, false, true, false, false, false, false, false, false, false, false, false, false, true, false, false, false, false, true, false, false, false, false, false, true, false, false, false, false, false, false, false, false, false, false, false, true, false, false, false, false, false, true, true, false, false, false, false, true, false, false, false, false, false, false, true, false, false, true, false, false, false, false, false, false, true, true, false, false, false, false, true, false, false, false, false, false, false, false, false, false, false, false, false, false, false, false, false, false, false, true, false, true, true, false, false, false, false, false, false, false, false, false, false, false, false, false, false, false, false, false, false, false, false, false, false, false, false, false, false, false, false, false, false, false, true]
def mpos_min : Nat := 461
def mpos_max : Nat := 622
def mpos_abs : Nat := 684
def opos : Nat := 111
def cpos : List Nat := [108, 116, 122, 163, 178, 186, 206, 289, 318, 347, 399, 402, 406, 410, 414, 418, 422, 426, 429, 435, 439, 443, 447, 450, 454, 458, 465, 469, 473, 477, 481, 485, 488, 492, 495, 499, 503, 507, 511, 516, 520, 525, 529, 533, 537, 541, 545, 549, 554, 561, 565, 571, 575, 579, 583, 587, 591, 595, 600, 604, 607, 611, 615, 619, 626, 630, 634, 638, 642, 647, 651, 654, 658, 662, 668, 674, 677, 681, 688, 692, 702, 707, 710, 714, 718, 722, 726, 731, 735, 740, 744, 748, 752, 756, 759, 766, 770, 774, 798, 864, 867, 871, 876, 880, 884, 888, 891, 895, 900, 904, 909, 913, 917, 920, 924, 928, 931, 936, 940, 944, 948, 952, 957, 960, 964, 968, 973, 977, 981, 984, 988, 992, 998, 1002, 1006, 1010, 1014, 1018, 1022, 1026, 1030, 1034, 1038, 1042, 1046, 1050, 1054, 1058, 1061, 1065, 1068, 1071, 1075, 1079, 1083, 1087, 1091, 1095, 1099, 1103, 1107, 1111, 1115, 1119, 1123, 1127, 1131, 1135, 1139, 1144, 1148, 1152, 1156, 1162, 1166, 1170, 1174, 1179, 1184, 1188, 1192, 1196, 1200]
end
section
/-- BoxSpider.<init>()V -/
def pr_0 : List (Nat × Instr × Nat) := [(0, .aload 0, 1), (1, .invokespecial 1500, 4), (4, .aload 0, 5), (5, .new 102, 8), (8, .dup, 9), (9, .invokespecial 1000001, 12), (12, .putfield 460900, 15), (15, .aload 0, 16), (16, .new 301, 19), (19, .dup, 20), (20, .invokespecial 1002003, 23), (23, .putfield 470901, 26), (26, .aload 0, 27), (27, .new 403, 30), (30, .dup, 31), (31, .aload 0, 32), (32, .getfield 460900, 35), (35, .invokespecial 1003004, 38), (38, .putfield 480902, 41), (41, .aload 0, 42), (42, .new 807, 45), (45, .dup, 46), (46, .aload 0, 47), (47, .getfield 460900, 50), (50, .aload 0, 51), (51, .getfield 480902, 54), (54, .invokespecial 1007007, 57), (57, .putfield 490903, 60), (60, .aload 0, 61), (61, .new 908, 64), (64, .dup, 65), (65, .invokespecial 1008008, 68), (68, .putfield 500904, 71), (71, .aload 0, 72), (72, .iconst 4, 73), (73, .anewarray 1004, 76), (76, .putfield 510905, 79), (79, .aload 0, 80), (80, .new 1106, 83), (83, .dup, 84), (84, .invokespecial 1009006, 87), (87, .putfield 520906, 90), (90, .aload 0, 91), (91, .new 1200, 94), (94, .dup, 95), (95, .invokespecial 1010005, 98), (98, .putfield 530907, 101), (101, .aload 0, 102), (102, .new 1305, 105), (105, .dup, 106), (106, .invokespecial 1011002, 109), (109, .putfield 540908, 112), (112, .aload 0, 113), (113, .iconst 3, 114), (114, .newarray .int, 116), (116, .putfield 550909, 119), (119, .aload 0, 120), (120, .iconst 0, 121), (121, .putfield 560910, 124), (124, .iconst 0, 125), (125, .istore 1, 126), (126, .iload 1, 127), (127, .iconst 4, 128), (128, .if_icmp .ge 150, 131), (131, .aload 0, 132), (132, .getfield 510905, 135), (135, .iload 1, 136), (136, .new 1004, 139), (139, .dup, 140), (140, .invokespecial 1012009, 143), (143, .aastore, 144), (144, .iinc 1 1, 147), (147, .goto 126, 150), (150, .return_, 151)]
/-- BoxSpider$Room.<init>()V -/
def pr_1 : List (Nat × Instr × Nat) := [(0, .aload 0, 1), (1, .invokespecial 2500, 4), (4, .aload 0, 5), (5, .iconst 3, 6), (6, .newarray .int, 8), (8, .dup, 9), (9, .iconst 0, 10), (10, .iconst 30, 12), (12, .iastore, 13), (13, .dup, 14), (14, .iconst 1, 15), (15, .iconst 12, 17), (17, .iastore, 18), (18, .dup, 19), (19, .iconst 2, 20), (20, .iconst 12, 22), (22, .iastore, 23), (23, .putfield 10200, 26), (26, .aload 0, 27), (27, .iconst 8, 29), (29, .newarray .int, 31), (31, .putfield 20201, 34), (34, .aload 0, 35), (35, .iconst 8, 37), (37, .newarray .int, 39), (39, .putfield 30202, 42), (42, .aload 0, 43), (43, .iconst 8, 45), (45, .newarray .int, 47), (47, .putfield 40203, 50), (50, .aload 0, 51), (51, .iconst 6, 53), (53, .newarray .int, 55), (55, .putfield 50204, 58), (58, .aload 0, 59), (59, .new 205, 62), (62, .dup, 63), (63, .invokespecial 1001002, 66), (66, .putfield 60205, 69), (69, .aload 0, 70), (70, .iconst 1, 71), (71, .putfield 70206, 74), (74, .return_, 75)]
/-- BoxSpider$Spot.<init>()V -/
def pr_2 : List (Nat × Instr × Nat) := [(0, .aload 0, 1), (1, .invokespecial 3500, 4), (4, .aload 0, 5), (5, .iconst 6, 7), (7, .newarray .int, 9), (9, .putfield 500, 12), (12, .return_, 13)]
/-- BoxSpider$Rolls.<init>()V -/
def pr_3 : List (Nat × Instr × Nat) := [(0, .aload 0, 1), (1, .invokespecial 4500, 4), (4, .aload 0, 5), (5, .iconst 40, 7), (7, .newarray .int, 9), (9, .putfield 80100, 12), (12, .aload 0, 13), (13, .iconst 0, 14), (14, .putfield 90101, 17), (17, .return_, 18)]
/-- BoxSpider$Search.<init>(LBoxSpider$Room;)V -/
def pr_4 : List (Nat × Instr × Nat) := [(0, .aload 0, 1), (1, .invokespecial 5500, 4), (4, .aload 0, 5), (5, .new 505, 8), (8, .dup, 9), (9, .invokespecial 1004002, 12), (12, .putfield 230301, 15), (15, .aload 0, 16), (16, .new 505, 19), (19, .dup, 20), (20, .invokespecial 1004002, 23), (23, .putfield 240302, 26), (26, .aload 0, 27), (27, .new 600, 30), (30, .dup, 31), (31, .invokespecial 1005005, 34), (34, .putfield 250303, 37), (37, .aload 0, 38), (38, .iconst 5, 39), (39, .anewarray 706, 42), (42, .putfield 260304, 45), (45, .aload 0, 46), (46, .iconst 5, 47), (47, .newarray .int, 49), (49, .putfield 270305, 52), (52, .aload 0, 53), (53, .aload 1, 54), (54, .putfield 220300, 57), (57, .iconst 0, 58), (58, .istore 2, 59), (59, .iload 2, 60), (60, .iconst 5, 61), (61, .if_icmp .ge 83, 64), (64, .aload 0, 65), (65, .getfield 260304, 68), (68, .iload 2, 69), (69, .new 706, 72), (72, .dup, 73), (73, .invokespecial 1006006, 76), (76, .aastore, 77), (77, .iinc 2 1, 80), (80, .goto 59, 83), (83, .return_, 84)]
/-- BoxSpider$Line.<init>()V -/
def pr_5 : List (Nat × Instr × Nat) := [(0, .aload 0, 1), (1, .invokespecial 6500, 4), (4, .return_, 5)]
/-- BoxSpider$Stand.<init>()V -/
def pr_6 : List (Nat × Instr × Nat) := [(0, .aload 0, 1), (1, .invokespecial 7500, 4), (4, .return_, 5)]
/-- BoxSpider$Table.<init>(LBoxSpider$Room;LBoxSpider$Search;)V -/
def pr_7 : List (Nat × Instr × Nat) := [(0, .aload 0, 1), (1, .invokespecial 8500, 4), (4, .aload 0, 5), (5, .iconst 64, 7), (7, .newarray .int, 9), (9, .putfield 350702, 12), (12, .aload 0, 13), (13, .iconst 64, 15), (15, .newarray .int, 17), (17, .putfield 360703, 20), (20, .aload 0, 21), (21, .iconst 64, 23), (23, .newarray .int, 25), (25, .putfield 370704, 28), (28, .aload 0, 29), (29, .iconst 64, 31), (31, .newarray .int, 33), (33, .putfield 380705, 36), (36, .aload 0, 37), (37, .aload 1, 38), (38, .putfield 330700, 41), (41, .aload 0, 42), (42, .aload 2, 43), (43, .putfield 340701, 46), (46, .return_, 47)]
/-- BoxSpider$Wiring.<init>()V -/
def pr_8 : List (Nat × Instr × Nat) := [(0, .aload 0, 1), (1, .invokespecial 9500, 4), (4, .aload 0, 5), (5, .iconst 8, 7), (7, .newarray .int, 9), (9, .putfield 390800, 12), (12, .aload 0, 13), (13, .iconst 8, 15), (15, .newarray .int, 17), (17, .putfield 400801, 20), (20, .return_, 21)]
/-- BoxSpider$Sheet.<init>()V -/
def pr_9 : List (Nat × Instr × Nat) := [(0, .aload 0, 1), (1, .invokespecial 10500, 4), (4, .aload 0, 5), (5, .iconst 60, 7), (7, .newarray .int, 9), (9, .putfield 430400, 12), (12, .aload 0, 13), (13, .iconst (-1), 14), (14, .putfield 440401, 17), (17, .aload 0, 18), (18, .iconst 0, 19), (19, .putfield 450402, 22), (22, .return_, 23)]
/-- BoxSpider.side(II)I -/
def pr_10 : List (Nat × Instr × Nat) := [(0, .iload 1, 1), (1, .ifCond .lt 20, 4), (4, .iload 1, 5), (5, .iconst 3, 6), (6, .if_icmp .ge 20, 9), (9, .iload 2, 10), (10, .iconst 1, 11), (11, .if_icmp .lt 20, 14), (14, .iload 2, 15), (15, .iconst 30, 17), (17, .if_icmp .le 23, 20), (20, .iconst (-2), 22), (22, .ireturn, 23), (23, .aload 0, 24), (24, .getfield 460900, 27), (27, .iload 1, 28), (28, .invokestatic 12011, 31), (31, .iload 2, 32), (32, .invokevirtual 1013012, 35), (35, .ireturn, 36)]
/-- BoxSpider.axisOf(I)I -/
def pr_11 : List (Nat × Instr × Nat) := [(0, .iload 0, 1), (1, .iconst 1, 2), (2, .iadd, 3), (3, .iconst 3, 4), (4, .irem, 5), (5, .ireturn, 6)]
/-- BoxSpider$Room.stretch(II)I -/
def pr_12 : List (Nat × Instr × Nat) := [(0, .aload 0, 1), (1, .getfield 10200, 4), (4, .iload 1, 5), (5, .iaload, 6), (6, .istore 3, 7), (7, .aload 0, 8), (8, .getfield 10200, 11), (11, .iload 1, 12), (12, .iload 2, 13), (13, .iastore, 14), (14, .iconst 0, 15), (15, .istore 4, 17), (17, .iload 4, 19), (19, .iconst 8, 21), (21, .if_icmp .ge 67, 24), (24, .aload 0, 25), (25, .aload 0, 26), (26, .getfield 20201, 29), (29, .iload 4, 31), (31, .iaload, 32), (32, .aload 0, 33), (33, .getfield 30202, 36), (36, .iload 4, 38), (38, .iaload, 39), (39, .aload 0, 40), (40, .getfield 40203, 43), (43, .iload 4, 45), (45, .iaload, 46), (46, .invokevirtual 13013, 49), (49, .ifCond .ne 61, 52), (52, .aload 0, 53), (53, .iload 4, 55), (55, .iconst 0, 56), (56, .iconst 0, 57), (57, .iconst 0, 58), (58, .invokevirtual 14016, 61), (61, .iinc 4 1, 64), (64, .goto 17, 67), (67, .aload 0, 68), (68, .dup, 69), (69, .getfield 70206, 72), (72, .iconst 1, 73), (73, .iadd, 74), (74, .putfield 70206, 77), (77, .iload 3, 78), (78, .ireturn, 79)]
/-- BoxSpider$Room.holds(III)Z -/
def pr_13 : List (Nat × Instr × Nat) := [(0, .aload 0, 1), (1, .getfield 60205, 4), (4, .aload 0, 5), (5, .getfield 10200, 8), (8, .iload 1, 9), (9, .iload 2, 10), (10, .iload 3, 11), (11, .invokevirtual 1014014, 14), (14, .aload 0, 15), (15, .getfield 60205, 18), (18, .invokevirtual 1015015, 21), (21, .ireturn, 22)]
/-- BoxSpider$Spot.set([IIII)V -/
def pr_14 : List (Nat × Instr × Nat) := [(0, .aload 0, 1), (1, .getfield 500, 4), (4, .iconst 0, 5), (5, .iload 4, 7), (7, .iastore, 8), (8, .aload 0, 9), (9, .getfield 500, 12), (12, .iconst 1, 13), (13, .aload 1, 14), (14, .iconst 0, 15), (15, .iaload, 16), (16, .iload 4, 18), (18, .isub, 19), (19, .iastore, 20), (20, .aload 0, 21), (21, .getfield 500, 24), (24, .iconst 2, 25), (25, .iload 2, 26), (26, .iastore, 27), (27, .aload 0, 28), (28, .getfield 500, 31), (31, .iconst 3, 32), (32, .aload 1, 33), (33, .iconst 1, 34), (34, .iaload, 35), (35, .iload 2, 36), (36, .isub, 37), (37, .iastore, 38), (38, .aload 0, 39), (39, .getfield 500, 42), (42, .iconst 4, 43), (43, .iload 3, 44), (44, .iastore, 45), (45, .aload 0, 46), (46, .getfield 500, 49), (49, .iconst 5, 50), (50, .aload 1, 51), (51, .iconst 2, 52), (52, .iaload, 53), (53, .iload 3, 54), (54, .isub, 55), (55, .iastore, 56), (56, .return_, 57)]
/-- BoxSpider$Spot.isOnBox()Z -/
def pr_15 : List (Nat × Instr × Nat) := [(0, .iconst 0, 1), (1, .istore 1, 2), (2, .iconst 0, 3), (3, .istore 2, 4), (4, .iload 2, 5), (5, .iconst 6, 7), (7, .if_icmp .ge 44, 10), (10, .aload 0, 11), (11, .getfield 500, 14), (14, .iload 2, 15), (15, .iaload, 16), (16, .ifCond .ge 21, 19), (19, .iconst 0, 20), (20, .ireturn, 21), (21, .iload 1, 22), (22, .aload 0, 23), (23, .getfield 500, 26), (26, .iload 2, 27), (27, .iaload, 28), (28, .ifCond .ne 35, 31), (31, .iconst 1, 32), (32, .goto 36, 35), (35, .iconst 0, 36), (36, .ior, 37), (37, .istore 1, 38), (38, .iinc 2 1, 41), (41, .goto 4, 44), (44, .iload 1, 45), (45, .ireturn, 46)]
/-- BoxSpider$Room.move(IIII)V -/
def pr_16 : List (Nat × Instr × Nat) := [(0, .aload 0, 1), (1, .getfield 20201, 4), (4, .iload 1, 5), (5, .iload 2, 6), (6, .iastore, 7), (7, .aload 0, 8), (8, .getfield 30202, 11), (11, .iload 1, 12), (12, .iload 3, 13), (13, .iastore, 14), (14, .aload 0, 15), (15, .getfield 40203, 18), (18, .iload 1, 19), (19, .iload 4, 21), (21, .iastore, 22), (22, .aload 0, 23), (23, .dup, 24), (24, .getfield 70206, 27), (27, .iconst 1, 28), (28, .iadd, 29), (29, .putfield 70206, 32), (32, .return_, 33)]
/-- BoxSpider.place(IIII)I -/
def pr_17 : List (Nat × Instr × Nat) := [(0, .iload 1, 1), (1, .invokestatic 16018, 4), (4, .ifCond .eq 21, 7), (7, .aload 0, 8), (8, .getfield 460900, 11), (11, .iload 2, 12), (12, .iload 3, 13), (13, .iload 4, 15), (15, .invokevirtual 1016013, 18), (18, .ifCond .ne 24, 21), (21, .iconst (-2), 23), (23, .ireturn, 24), (24, .aload 0, 25), (25, .getfield 460900, 28), (28, .iload 1, 29), (29, .iload 2, 30), (30, .iload 3, 31), (31, .iload 4, 33), (33, .invokevirtual 1017016, 36), (36, .iconst 1, 37), (37, .ireturn, 38)]
/-- BoxSpider.isPlace(I)Z -/
def pr_18 : List (Nat × Instr × Nat) := [(0, .iload 0, 1), (1, .ifCond .lt 14, 4), (4, .iload 0, 5), (5, .iconst 8, 7), (7, .if_icmp .ge 14, 10), (10, .iconst 1, 11), (11, .goto 15, 14), (14, .iconst 0, 15), (15, .ireturn, 16)]
/-- BoxSpider.at(II)I -/
def pr_19 : List (Nat × Instr × Nat) := [(0, .iload 1, 1), (1, .invokestatic 16018, 4), (4, .ifCond .eq 16, 7), (7, .iload 2, 8), (8, .ifCond .lt 16, 11), (11, .iload 2, 12), (12, .iconst 3, 13), (13, .if_icmp .le 19, 16), (16, .iconst (-2), 18), (18, .ireturn, 19), (19, .iload 2, 20), (20, .tableswitch 78 0 2 #[48, 58, 68], 48), (48, .aload 0, 49), (49, .getfield 460900, 52), (52, .getfield 10030201, 55), (55, .iload 1, 56), (56, .iaload, 57), (57, .ireturn, 58), (58, .aload 0, 59), (59, .getfield 460900, 62), (62, .getfield 10040202, 65), (65, .iload 1, 66), (66, .iaload, 67), (67, .ireturn, 68), (68, .aload 0, 69), (69, .getfield 460900, 72), (72, .getfield 10050203, 75), (75, .iload 1, 76), (76, .iaload, 77), (77, .ireturn, 78), (78, .aload 0, 79), (79, .getfield 460900, 82), (82, .iload 1, 83), (83, .aload 0, 84), (84, .getfield 540908, 87), (87, .invokevirtual 1018020, 90), (90, .aload 0, 91), (91, .getfield 540908, 94), (94, .invokevirtual 1019021, 97), (97, .ireturn, 98)]
/-- BoxSpider$Room.spotOf(ILBoxSpider$Spot;)V -/
def pr_20 : List (Nat × Instr × Nat) := [(0, .aload 2, 1), (1, .aload 0, 2), (2, .getfield 10200, 5), (5, .aload 0, 6), (6, .getfield 20201, 9), (9, .iload 1, 10), (10, .iaload, 11), (11, .aload 0, 12), (12, .getfield 30202, 15), (15, .iload 1, 16), (16, .iaload, 17), (17, .aload 0, 18), (18, .getfield 40203, 21), (21, .iload 1, 22), (22, .iaload, 23), (23, .invokevirtual 1014014, 26), (26, .return_, 27)]
/-- BoxSpider$Spot.wallBits()I -/
def pr_21 : List (Nat × Instr × Nat) := [(0, .iconst 0, 1), (1, .istore 1, 2), (2, .iconst 0, 3), (3, .istore 2, 4), (4, .iload 2, 5), (5, .iconst 6, 7), (7, .if_icmp .ge 31, 10), (10, .aload 0, 11), (11, .getfield 500, 14), (14, .iload 2, 15), (15, .iaload, 16), (16, .ifCond .ne 25, 19), (19, .iload 1, 20), (20, .iconst 1, 21), (21, .iload 2, 22), (22, .ishl, 23), (23, .ior, 24), (24, .istore 1, 25), (25, .iinc 2 1, 28), (28, .goto 4, 31), (31, .iload 1, 32), (32, .ireturn, 33)]
/-- BoxSpider.read(I)I -/
def pr_22 : List (Nat × Instr × Nat) := [(0, .iload 1, 1), (1, .invokestatic 19023, 4), (4, .ifCond .ne 10, 7), (7, .iconst (-2), 9), (9, .ireturn, 10), (10, .aload 0, 11), (11, .getfield 510905, 14), (14, .iload 1, 15), (15, .aaload, 16), (16, .astore 2, 17), (17, .aload 2, 18), (18, .invokevirtual 1020024, 21), (21, .ifCond .eq 30, 24), (24, .aload 0, 25), (25, .iconst 1, 26), (26, .invokevirtual 20025, 29), (29, .ireturn, 30), (30, .aload 2, 31), (31, .getfield 10370402, 34), (34, .iconst 3, 35), (35, .idiv, 36), (36, .iconst 8, 38), (38, .invokestatic 21502, 41), (41, .istore 3, 42), (42, .iconst 0, 43), (43, .istore 4, 45), (45, .iload 4, 47), (47, .iload 3, 48), (48, .if_icmp .ge 128, 51), (51, .aload 2, 52), (52, .getfield 10350400, 55), (55, .iconst 3, 56), (56, .iload 4, 58), (58, .imul, 59), (59, .iaload, 60), (60, .istore 5, 62), (62, .aload 2, 63), (63, .getfield 10350400, 66), (66, .iconst 3, 67), (67, .iload 4, 69), (69, .imul, 70), (70, .iconst 1, 71), (71, .iadd, 72), (72, .iaload, 73), (73, .istore 6, 75), (75, .aload 2, 76), (76, .getfield 10350400, 79), (79, .iconst 3, 80), (80, .iload 4, 82), (82, .imul, 83), (83, .iconst 2, 84), (84, .iadd, 85), (85, .iaload, 86), (86, .istore 7, 88), (88, .aload 0, 89), (89, .getfield 460900, 92), (92, .iload 5, 94), (94, .iload 6, 96), (96, .iload 7, 98), (98, .invokevirtual 1016013, 101), (101, .ifCond .ne 107, 104), (104, .iload 4, 106), (106, .ireturn, 107), (107, .aload 0, 108), (108, .getfield 460900, 111), (111, .iload 4, 113), (113, .iload 5, 115), (115, .iload 6, 117), (117, .iload 7, 119), (119, .invokevirtual 1017016, 122), (122, .iinc 4 1, 125), (125, .goto 45, 128), (128, .iload 3, 129), (129, .ireturn, 130)]
/-- BoxSpider.isSheet(I)Z -/
def pr_23 : List (Nat × Instr × Nat) := [(0, .iload 0, 1), (1, .ifCond .lt 13, 4), (4, .iload 0, 5), (5, .iconst 4, 6), (6, .if_icmp .ge 13, 9), (9, .iconst 1, 10), (10, .goto 14, 13), (13, .iconst 0, 14), (14, .ireturn, 15)]
/-- BoxSpider$Sheet.isLost()Z -/
def pr_24 : List (Nat × Instr × Nat) := [(0, .aload 0, 1), (1, .getfield 440401, 4), (4, .iconst (-1), 5), (5, .if_icmp .ne 12, 8), (8, .iconst 1, 9), (9, .goto 13, 12), (12, .iconst 0, 13), (13, .ireturn, 14)]
/-- BoxSpider.found(I)I -/
def pr_25 : List (Nat × Instr × Nat) := [(0, .aload 0, 1), (1, .iload 1, 2), (2, .putfield 560910, 5), (5, .iconst (-10), 7), (7, .iload 1, 8), (8, .isub, 9), (9, .ireturn, 10)]
/-- BoxSpider.type(I)I -/
def pr_26 : List (Nat × Instr × Nat) := [(0, .iload 1, 1), (1, .ifCond .lt 11, 4), (4, .iload 1, 5), (5, .iconst 255, 8), (8, .if_icmp .le 14, 11), (11, .iconst (-2), 13), (13, .ireturn, 14), (14, .aload 0, 15), (15, .getfield 470901, 18), (18, .getfield 10090101, 21), (21, .iconst 40, 23), (23, .if_icmp .lt 29, 26), (26, .iconst (-4), 28), (28, .ireturn, 29), (29, .aload 0, 30), (30, .getfield 470901, 33), (33, .iload 1, 34), (34, .invokevirtual 1021027, 37), (37, .aload 0, 38), (38, .getfield 470901, 41), (41, .getfield 10090101, 44), (44, .ireturn, 45)]
/-- BoxSpider$Rolls.append(I)V -/
def pr_27 : List (Nat × Instr × Nat) := [(0, .aload 0, 1), (1, .getfield 90101, 4), (4, .iconst 40, 6), (6, .if_icmp .ge 29, 9), (9, .aload 0, 10), (10, .getfield 80100, 13), (13, .aload 0, 14), (14, .getfield 90101, 17), (17, .iload 1, 18), (18, .iastore, 19), (19, .aload 0, 20), (20, .dup, 21), (21, .getfield 90101, 24), (24, .iconst 1, 25), (25, .iadd, 26), (26, .putfield 90101, 29), (29, .return_, 30)]
/-- BoxSpider.undo()I -/
def pr_28 : List (Nat × Instr × Nat) := [(0, .aload 0, 1), (1, .getfield 470901, 4), (4, .getfield 10090101, 7), (7, .ifCond .ne 13, 10), (10, .iconst (-3), 12), (12, .ireturn, 13), (13, .aload 0, 14), (14, .getfield 470901, 17), (17, .dup, 18), (18, .getfield 10090101, 21), (21, .iconst 1, 22), (22, .isub, 23), (23, .putfield 10090101, 26), (26, .aload 0, 27), (27, .getfield 470901, 30), (30, .getfield 10090101, 33), (33, .ireturn, 34)]
/-- BoxSpider.wipe()I -/
def pr_29 : List (Nat × Instr × Nat) := [(0, .aload 0, 1), (1, .getfield 470901, 4), (4, .getfield 10090101, 7), (7, .istore 1, 8), (8, .aload 0, 9), (9, .getfield 470901, 12), (12, .iconst 0, 13), (13, .putfield 10090101, 16), (16, .iload 1, 17), (17, .ireturn, 18)]
/-- BoxSpider.fault()I -/
def pr_30 : List (Nat × Instr × Nat) := [(0, .aload 0, 1), (1, .getfield 470901, 4), (4, .invokevirtual 1022031, 7), (7, .ireturn, 8)]
/-- BoxSpider$Rolls.firstWrong()I -/
def pr_31 : List (Nat × Instr × Nat) := [(0, .iconst 0, 1), (1, .istore 1, 2), (2, .iload 1, 3), (3, .aload 0, 4), (4, .getfield 90101, 7), (7, .if_icmp .ge 36, 10), (10, .iload 1, 11), (11, .iconst 20, 13), (13, .if_icmp .ge 28, 16), (16, .aload 0, 17), (17, .getfield 80100, 20), (20, .iload 1, 21), (21, .iaload, 22), (22, .invokestatic 26032, 25), (25, .ifCond .ne 30, 28), (28, .iload 1, 29), (29, .ireturn, 30), (30, .iinc 1 1, 33), (33, .goto 2, 36), (36, .iconst (-1), 37), (37, .ireturn, 38)]
/-- BoxSpider$Rolls.rollOf(I)I -/
def pr_32 : List (Nat × Instr × Nat) := [(0, .iload 0, 1), (1, .lookupswitch 52 #[(101, 44), (110, 48), (115, 50), (119, 46)], 44), (44, .iconst 1, 45), (45, .ireturn, 46), (46, .iconst 2, 47), (47, .ireturn, 48), (48, .iconst 3, 49), (49, .ireturn, 50), (50, .iconst 4, 51), (51, .ireturn, 52), (52, .iconst 0, 53), (53, .ireturn, 54)]
/-- BoxSpider.bar(III)I -/
def pr_33 : List (Nat × Instr × Nat) := [(0, .iload 1, 1), (1, .invokestatic 28034, 4), (4, .ifCond .eq 32, 7), (7, .iload 2, 8), (8, .invokestatic 28034, 11), (11, .ifCond .eq 32, 14), (14, .iload 1, 15), (15, .iconst 1, 16), (16, .ishr, 17), (17, .iload 2, 18), (18, .iconst 1, 19), (19, .ishr, 20), (20, .if_icmp .eq 32, 23), (23, .iload 3, 24), (24, .ifCond .lt 32, 27), (27, .iload 3, 28), (28, .iconst 1, 29), (29, .if_icmp .le 35, 32), (32, .iconst (-2), 34), (34, .ireturn, 35), (35, .aload 0, 36), (36, .getfield 460900, 39), (39, .iload 1, 40), (40, .iload 2, 41), (41, .invokevirtual 1023035, 44), (44, .ifCond .eq 51, 47), (47, .iconst 1, 48), (48, .goto 52, 51), (51, .iconst 0, 52), (52, .istore 4, 54), (54, .aload 0, 55), (55, .getfield 460900, 58), (58, .iload 1, 59), (59, .iload 2, 60), (60, .iload 3, 61), (61, .iconst 1, 62), (62, .if_icmp .ne 69, 65), (65, .iconst 1, 66), (66, .goto 70, 69), (69, .iconst 0, 70), (70, .invokevirtual 1024036, 73), (73, .iload 4, 75), (75, .ireturn, 76)]
/-- BoxSpider.isWall(I)Z -/
def pr_34 : List (Nat × Instr × Nat) := [(0, .iload 0, 1), (1, .ifCond .lt 14, 4), (4, .iload 0, 5), (5, .iconst 6, 7), (7, .if_icmp .ge 14, 10), (10, .iconst 1, 11), (11, .goto 15, 14), (14, .iconst 0, 15), (15, .ireturn, 16)]
/-- BoxSpider$Room.isBarred(II)Z -/
def pr_35 : List (Nat × Instr × Nat) := [(0, .aload 0, 1), (1, .getfield 50204, 4), (4, .iload 1, 5), (5, .iaload, 6), (6, .iload 2, 7), (7, .ishr, 8), (8, .iconst 1, 9), (9, .iand, 10), (10, .iconst 1, 11), (11, .if_icmp .ne 18, 14), (14, .iconst 1, 15), (15, .goto 19, 18), (18, .iconst 0, 19), (19, .ireturn, 20)]
/-- BoxSpider$Room.setBar(IIZ)V -/
def pr_36 : List (Nat × Instr × Nat) := [(0, .iload 3, 1), (1, .ifCond .eq 31, 4), (4, .aload 0, 5), (5, .getfield 50204, 8), (8, .iload 1, 9), (9, .dup2, 10), (10, .iaload, 11), (11, .iconst 1, 12), (12, .iload 2, 13), (13, .ishl, 14), (14, .ior, 15), (15, .iastore, 16), (16, .aload 0, 17), (17, .getfield 50204, 20), (20, .iload 2, 21), (21, .dup2, 22), (22, .iaload, 23), (23, .iconst 1, 24), (24, .iload 1, 25), (25, .ishl, 26), (26, .ior, 27), (27, .iastore, 28), (28, .goto 59, 31), (31, .aload 0, 32), (32, .getfield 50204, 35), (35, .iload 1, 36), (36, .dup2, 37), (37, .iaload, 38), (38, .iconst 1, 39), (39, .iload 2, 40), (40, .ishl, 41), (41, .iconst (-1), 42), (42, .ixor, 43), (43, .iand, 44), (44, .iastore, 45), (45, .aload 0, 46), (46, .getfield 50204, 49), (49, .iload 2, 50), (50, .dup2, 51), (51, .iaload, 52), (52, .iconst 1, 53), (53, .iload 1, 54), (54, .ishl, 55), (55, .iconst (-1), 56), (56, .ixor, 57), (57, .iand, 58), (58, .iastore, 59), (59, .aload 0, 60), (60, .dup, 61), (61, .getfield 70206, 64), (64, .iconst 1, 65), (65, .iadd, 66), (66, .putfield 70206, 69), (69, .return_, 70)]
/-- BoxSpider.laidOut(II)I -/
def pr_37 : List (Nat × Instr × Nat) := [(0, .iload 1, 1), (1, .ifCond .lt 24, 4), (4, .iload 1, 5), (5, .aload 0, 6), (6, .getfield 470901, 9), (9, .invokevirtual 1025038, 12), (12, .if_icmp .gt 24, 15), (15, .iload 2, 16), (16, .ifCond .lt 24, 19), (19, .iload 2, 20), (20, .iconst 4, 21), (21, .if_icmp .le 28, 24), (24, .iconst (-10002), 27), (27, .ireturn, 28), (28, .aload 0, 29), (29, .iload 1, 30), (30, .invokevirtual 31039, 33), (33, .iload 2, 34), (34, .tableswitch 96 0 3 #[64, 72, 80, 88], 64), (64, .aload 0, 65), (65, .getfield 520906, 68), (68, .getfield 10110600, 71), (71, .ireturn, 72), (72, .aload 0, 73), (73, .getfield 520906, 76), (76, .getfield 10130603, 79), (79, .ireturn, 80), (80, .aload 0, 81), (81, .getfield 520906, 84), (84, .getfield 10150604, 87), (87, .ireturn, 88), (88, .aload 0, 89), (89, .getfield 520906, 92), (92, .getfield 10170605, 95), (95, .ireturn, 96), (96, .aload 0, 97), (97, .getfield 520906, 100), (100, .getfield 10190606, 103), (103, .ireturn, 104)]
/-- BoxSpider$Rolls.valid()I -/
def pr_38 : List (Nat × Instr × Nat) := [(0, .aload 0, 1), (1, .invokevirtual 30031, 4), (4, .iconst (-1), 5), (5, .if_icmp .ne 15, 8), (8, .aload 0, 9), (9, .getfield 90101, 12), (12, .goto 16, 15), (15, .iconst 0, 16), (16, .ireturn, 17)]
/-- BoxSpider.standBehind(I)V -/
def pr_39 : List (Nat × Instr × Nat) := [(0, .aload 0, 1), (1, .getfield 520906, 4), (4, .iconst 0, 5), (5, .aload 0, 6), (6, .getfield 460900, 9), (9, .getfield 10020200, 12), (12, .invokevirtual 1026040, 15), (15, .iconst 0, 16), (16, .istore 2, 17), (17, .iload 2, 18), (18, .iload 1, 19), (19, .if_icmp .ge 58, 22), (22, .iload 2, 23), (23, .aload 0, 24), (24, .getfield 470901, 27), (27, .getfield 10090101, 30), (30, .if_icmp .ge 58, 33), (33, .aload 0, 34), (34, .getfield 520906, 37), (37, .aload 0, 38), (38, .getfield 470901, 41), (41, .getfield 10080100, 44), (44, .iload 2, 45), (45, .iaload, 46), (46, .invokestatic 1027032, 49), (49, .invokevirtual 1028041, 52), (52, .iinc 2 1, 55), (55, .goto 17, 58), (58, .return_, 59)]
/-- BoxSpider$Stand.start(I[I)V -/
def pr_40 : List (Nat × Instr × Nat) := [(0, .aload 0, 1), (1, .iload 1, 2), (2, .putfield 140600, 5), (5, .aload 0, 6), (6, .iload 1, 7), (7, .iconst 1, 8), (8, .ishr, 9), (9, .iconst 1, 10), (10, .if_icmp .ne 17, 13), (13, .iconst 5, 14), (14, .goto 18, 17), (17, .iconst 3, 18), (18, .putfield 150601, 21), (21, .aload 0, 22), (22, .iload 1, 23), (23, .iconst 1, 24), (24, .ishr, 25), (25, .ifCond .ne 32, 28), (28, .iconst 5, 29), (29, .goto 33, 32), (32, .iconst 1, 33), (33, .putfield 160602, 36), (36, .aload 0, 37), (37, .iconst 0, 38), (38, .putfield 170603, 41), (41, .aload 0, 42), (42, .iconst 0, 43), (43, .putfield 180604, 46), (46, .aload 0, 47), (47, .aload 2, 48), (48, .aload 0, 49), (49, .getfield 150601, 52), (52, .iconst 1, 53), (53, .ishr, 54), (54, .iaload, 55), (55, .putfield 190605, 58), (58, .aload 0, 59), (59, .aload 2, 60), (60, .aload 0, 61), (61, .getfield 160602, 64), (64, .iconst 1, 65), (65, .ishr, 66), (66, .iaload, 67), (67, .putfield 200606, 70), (70, .aload 0, 71), (71, .aload 2, 72), (72, .aload 0, 73), (73, .getfield 140600, 76), (76, .iconst 1, 77), (77, .ishr, 78), (78, .iaload, 79), (79, .putfield 210607, 82), (82, .return_, 83)]
/-- BoxSpider$Stand.roll(I)V -/
def pr_41 : List (Nat × Instr × Nat) := [(0, .aload 0, 1), (1, .getfield 140600, 4), (4, .istore 2, 5), (5, .aload 0, 6), (6, .getfield 210607, 9), (9, .istore 3, 10), (10, .iload 1, 11), (11, .iconst 1, 12), (12, .if_icmp .ne 59, 15), (15, .aload 0, 16), (16, .aload 0, 17), (17, .getfield 150601, 20), (20, .putfield 140600, 23), (23, .aload 0, 24), (24, .iload 2, 25), (25, .iconst 1, 26), (26, .ixor, 27), (27, .putfield 150601, 30), (30, .aload 0, 31), (31, .dup, 32), (32, .getfield 170603, 35), (35, .aload 0, 36), (36, .getfield 190605, 39), (39, .iadd, 40), (40, .putfield 170603, 43), (43, .aload 0, 44), (44, .aload 0, 45), (45, .getfield 190605, 48), (48, .putfield 210607, 51), (51, .aload 0, 52), (52, .iload 3, 53), (53, .putfield 190605, 56), (56, .goto 203, 59), (59, .iload 1, 60), (60, .iconst 2, 61), (61, .if_icmp .ne 108, 64), (64, .aload 0, 65), (65, .aload 0, 66), (66, .getfield 150601, 69), (69, .iconst 1, 70), (70, .ixor, 71), (71, .putfield 140600, 74), (74, .aload 0, 75), (75, .iload 2, 76), (76, .putfield 150601, 79), (79, .aload 0, 80), (80, .dup, 81), (81, .getfield 170603, 84), (84, .aload 0, 85), (85, .getfield 210607, 88), (88, .isub, 89), (89, .putfield 170603, 92), (92, .aload 0, 93), (93, .aload 0, 94), (94, .getfield 190605, 97), (97, .putfield 210607, 100), (100, .aload 0, 101), (101, .iload 3, 102), (102, .putfield 190605, 105), (105, .goto 203, 108), (108, .iload 1, 109), (109, .iconst 3, 110), (110, .if_icmp .ne 157, 113), (113, .aload 0, 114), (114, .aload 0, 115), (115, .getfield 160602, 118), (118, .putfield 140600, 121), (121, .aload 0, 122), (122, .iload 2, 123), (123, .iconst 1, 124), (124, .ixor, 125), (125, .putfield 160602, 128), (128, .aload 0, 129), (129, .dup, 130), (130, .getfield 180604, 133), (133, .aload 0, 134), (134, .getfield 200606, 137), (137, .iadd, 138), (138, .putfield 180604, 141), (141, .aload 0, 142), (142, .aload 0, 143), (143, .getfield 200606, 146), (146, .putfield 210607, 149), (149, .aload 0, 150), (150, .iload 3, 151), (151, .putfield 200606, 154), (154, .goto 203, 157), (157, .iload 1, 158), (158, .iconst 4, 159), (159, .if_icmp .ne 203, 162), (162, .aload 0, 163), (163, .aload 0, 164), (164, .getfield 160602, 167), (167, .iconst 1, 168), (168, .ixor, 169), (169, .putfield 140600, 172), (172, .aload 0, 173), (173, .iload 2, 174), (174, .putfield 160602, 177), (177, .aload 0, 178), (178, .dup, 179), (179, .getfield 180604, 182), (182, .aload 0, 183), (183, .getfield 210607, 186), (186, .isub, 187), (187, .putfield 180604, 190), (190, .aload 0, 191), (191, .aload 0, 192), (192, .getfield 200606, 195), (195, .putfield 210607, 198), (198, .aload 0, 199), (199, .iload 3, 200), (200, .putfield 200606, 203), (203, .return_, 204)]
/-- BoxSpider.lies(III)I -/
def pr_42 : List (Nat × Instr × Nat) := [(0, .iload 1, 1), (1, .invokestatic 16018, 4), (4, .ifCond .eq 31, 7), (7, .iload 2, 8), (8, .ifCond .lt 31, 11), (11, .iload 2, 12), (12, .aload 0, 13), (13, .getfield 470901, 16), (16, .invokevirtual 1025038, 19), (19, .if_icmp .gt 31, 22), (22, .iload 3, 23), (23, .ifCond .lt 31, 26), (26, .iload 3, 27), (27, .iconst 1, 28), (28, .if_icmp .le 35, 31), (31, .iconst (-10002), 34), (34, .ireturn, 35), (35, .aload 0, 36), (36, .iload 2, 37), (37, .invokevirtual 31039, 40), (40, .aload 0, 41), (41, .getfield 460900, 44), (44, .iload 1, 45), (45, .aload 0, 46), (46, .getfield 540908, 49), (49, .invokevirtual 1018020, 52), (52, .aload 0, 53), (53, .getfield 540908, 56), (56, .aload 0, 57), (57, .getfield 520906, 60), (60, .getfield 10110600, 63), (63, .invokevirtual 1029043, 66), (66, .ifCond .ne 73, 69), (69, .iconst (-10003), 72), (72, .ireturn, 73), (73, .iload 3, 74), (74, .ifCond .ne 91, 77), (77, .aload 0, 78), (78, .getfield 520906, 81), (81, .aload 0, 82), (82, .getfield 540908, 85), (85, .invokevirtual 1030044, 88), (88, .goto 102, 91), (91, .aload 0, 92), (92, .getfield 520906, 95), (95, .aload 0, 96), (96, .getfield 540908, 99), (99, .invokevirtual 1031045, 102), (102, .ireturn, 103)]
/-- BoxSpider$Spot.isOn(I)Z -/
def pr_43 : List (Nat × Instr × Nat) := [(0, .aload 0, 1), (1, .getfield 500, 4), (4, .iload 1, 5), (5, .iaload, 6), (6, .ifCond .ne 13, 9), (9, .iconst 1, 10), (10, .goto 14, 13), (13, .iconst 0, 14), (14, .ireturn, 15)]
/-- BoxSpider$Stand.planeX(LBoxSpider$Spot;)I -/
def pr_44 : List (Nat × Instr × Nat) := [(0, .aload 0, 1), (1, .getfield 170603, 4), (4, .aload 1, 5), (5, .getfield 10000500, 8), (8, .aload 0, 9), (9, .getfield 150601, 12), (12, .iconst 1, 13), (13, .ixor, 14), (14, .iaload, 15), (15, .iadd, 16), (16, .ireturn, 17)]
/-- BoxSpider$Stand.planeY(LBoxSpider$Spot;)I -/
def pr_45 : List (Nat × Instr × Nat) := [(0, .aload 0, 1), (1, .getfield 180604, 4), (4, .aload 1, 5), (5, .getfield 10000500, 8), (8, .aload 0, 9), (9, .getfield 160602, 12), (12, .iconst 1, 13), (13, .ixor, 14), (14, .iaload, 15), (15, .iadd, 16), (16, .ireturn, 17)]
/-- BoxSpider.shortest(II)I -/
def pr_46 : List (Nat × Instr × Nat) := [(0, .iload 1, 1), (1, .invokestatic 16018, 4), (4, .ifCond .eq 14, 7), (7, .iload 2, 8), (8, .invokestatic 16018, 11), (11, .ifCond .ne 17, 14), (14, .iconst (-2), 16), (16, .ireturn, 17), (17, .aload 0, 18), (18, .getfield 490903, 21), (21, .getfield 10290702, 24), (24, .aload 0, 25), (25, .getfield 490903, 28), (28, .iload 1, 29), (29, .iload 2, 30), (30, .invokevirtual 1032047, 33), (33, .iaload, 34), (34, .ireturn, 35)]
/-- BoxSpider$Table.look(II)I -/
def pr_47 : List (Nat × Instr × Nat) := [(0, .iconst 8, 2), (2, .iload 1, 3), (3, .imul, 4), (4, .iload 2, 5), (5, .iadd, 6), (6, .istore 3, 7), (7, .aload 0, 8), (8, .getfield 380705, 11), (11, .iload 3, 12), (12, .iaload, 13), (13, .aload 0, 14), (14, .getfield 330700, 17), (17, .getfield 10070206, 20), (20, .if_icmp .eq 119, 23), (23, .aload 0, 24), (24, .getfield 330700, 27), (27, .iload 1, 28), (28, .aload 0, 29), (29, .getfield 340701, 32), (32, .getfield 10200301, 35), (35, .invokevirtual 1033020, 38), (38, .aload 0, 39), (39, .getfield 330700, 42), (42, .iload 2, 43), (43, .aload 0, 44), (44, .getfield 340701, 47), (47, .getfield 10220302, 50), (50, .invokevirtual 1033020, 53), (53, .aload 0, 54), (54, .getfield 340701, 57), (57, .aload 0, 58), (58, .getfield 330700, 61), (61, .getfield 10010200, 64), (64, .invokevirtual 1034048, 67), (67, .aload 0, 68), (68, .getfield 350702, 71), (71, .iload 3, 72), (72, .aload 0, 73), (73, .getfield 340701, 76), (76, .getfield 10240307, 79), (79, .iastore, 80), (80, .aload 0, 81), (81, .getfield 360703, 84), (84, .iload 3, 85), (85, .aload 0, 86), (86, .getfield 340701, 89), (89, .getfield 10260308, 92), (92, .iastore, 93), (93, .aload 0, 94), (94, .getfield 370704, 97), (97, .iload 3, 98), (98, .aload 0, 99), (99, .getfield 340701, 102), (102, .getfield 10270309, 105), (105, .iastore, 106), (106, .aload 0, 107), (107, .getfield 380705, 110), (110, .iload 3, 111), (111, .aload 0, 112), (112, .getfield 330700, 115), (115, .getfield 10070206, 118), (118, .iastore, 119), (119, .iload 3, 120), (120, .ireturn, 121)]
/-- BoxSpider$Search.find([I)V -/
def pr_48 : List (Nat × Instr × Nat) := [(0, .aload 0, 1), (1, .aload 0, 2), (2, .getfield 240302, 5), (5, .invokevirtual 1035021, 8), (8, .putfield 280306, 11), (11, .aload 0, 12), (12, .iconst (-1), 13), (13, .putfield 290307, 16), (16, .aload 0, 17), (17, .iconst 0, 18), (18, .putfield 300308, 21), (21, .aload 0, 22), (22, .iconst 0, 23), (23, .putfield 310309, 26), (26, .aload 0, 27), (27, .iconst 0, 28), (28, .putfield 320310, 31), (31, .iconst 0, 32), (32, .istore 2, 33), (33, .iload 2, 34), (34, .iconst 6, 36), (36, .if_icmp .ge 75, 39), (39, .aload 0, 40), (40, .getfield 230301, 43), (43, .iload 2, 44), (44, .invokevirtual 1036043, 47), (47, .ifCond .eq 69, 50), (50, .aload 0, 51), (51, .getfield 260304, 54), (54, .iconst 0, 55), (55, .aaload, 56), (56, .iload 2, 57), (57, .aload 1, 58), (58, .invokevirtual 1037040, 61), (61, .aload 0, 62), (62, .iconst 0, 63), (63, .iconst 1, 64), (64, .iload 2, 65), (65, .ishl, 66), (66, .invokevirtual 34049, 69), (69, .iinc 2 1, 72), (72, .goto 33, 75), (75, .return_, 76)]
/-- BoxSpider$Search.extend(II)V -/
def pr_49 : List (Nat × Instr × Nat) := [(0, .aload 0, 1), (1, .getfield 260304, 4), (4, .iload 1, 5), (5, .aaload, 6), (6, .astore 3, 7), (7, .aload 0, 8), (8, .getfield 280306, 11), (11, .aload 3, 12), (12, .getfield 10100600, 15), (15, .ishr, 16), (16, .iconst 1, 17), (17, .iand, 18), (18, .iconst 1, 19), (19, .if_icmp .ne 27, 22), (22, .aload 0, 23), (23, .iload 1, 24), (24, .invokevirtual 35050, 27), (27, .iload 1, 28), (28, .iconst 1, 29), (29, .iadd, 30), (30, .istore 4, 32), (32, .iload 4, 34), (34, .iconst 5, 35), (35, .if_icmp .lt 39, 38), (38, .return_, 39), (39, .iload 2, 40), (40, .aload 0, 41), (41, .getfield 220300, 44), (44, .getfield 10060204, 47), (47, .aload 3, 48), (48, .getfield 10100600, 51), (51, .iaload, 52), (52, .ior, 53), (53, .iconst 1, 54), (54, .aload 3, 55), (55, .getfield 10100600, 58), (58, .iconst 1, 59), (59, .ixor, 60), (60, .ishl, 61), (61, .ior, 62), (62, .istore 5, 64), (64, .iload 4, 66), (66, .iconst 1, 67), (67, .iadd, 68), (68, .iconst 5, 69), (69, .if_icmp .ne 83, 72), (72, .iload 5, 74), (74, .aload 0, 75), (75, .getfield 280306, 78), (78, .iconst (-1), 79), (79, .ixor, 80), (80, .ior, 81), (81, .istore 5, 83), (83, .iconst 0, 84), (84, .istore 6, 86), (86, .iload 6, 88), (88, .iconst 6, 90), (90, .if_icmp .ge 150, 93), (93, .iload 5, 95), (95, .iload 6, 97), (97, .ishr, 98), (98, .iconst 1, 99), (99, .iand, 100), (100, .ifCond .ne 144, 103), (103, .aload 0, 104), (104, .getfield 270305, 107), (107, .iload 1, 108), (108, .aload 3, 109), (109, .iload 6, 111), (111, .invokevirtual 1044056, 114), (114, .iastore, 115), (115, .aload 0, 116), (116, .getfield 260304, 119), (119, .iload 4, 121), (121, .aaload, 122), (122, .aload 3, 123), (123, .aload 0, 124), (124, .getfield 270305, 127), (127, .iload 1, 128), (128, .iaload, 129), (129, .invokevirtual 1045057, 132), (132, .aload 0, 133), (133, .iload 4, 135), (135, .iload 2, 136), (136, .iconst 1, 137), (137, .iload 6, 139), (139, .ishl, 140), (140, .ior, 141), (141, .invokevirtual 34049, 144), (144, .iinc 6 1, 147), (147, .goto 86, 150), (150, .return_, 151)]
/-- BoxSpider$Search.weigh(I)V -/
def pr_50 : List (Nat × Instr × Nat) := [(0, .aload 0, 1), (1, .getfield 250303, 4), (4, .aload 0, 5), (5, .getfield 260304, 8), (8, .iconst 0, 9), (9, .aaload, 10), (10, .aload 0, 11), (11, .getfield 230301, 14), (14, .invokevirtual 1038044, 17), (17, .aload 0, 18), (18, .getfield 260304, 21), (21, .iconst 0, 22), (22, .aaload, 23), (23, .aload 0, 24), (24, .getfield 230301, 27), (27, .invokevirtual 1039045, 30), (30, .invokevirtual 1040051, 33), (33, .aload 0, 34), (34, .getfield 250303, 37), (37, .aload 0, 38), (38, .getfield 260304, 41), (41, .iload 1, 42), (42, .aaload, 43), (43, .aload 0, 44), (44, .getfield 240302, 47), (47, .invokevirtual 1038044, 50), (50, .aload 0, 51), (51, .getfield 260304, 54), (54, .iload 1, 55), (55, .aaload, 56), (56, .aload 0, 57), (57, .getfield 240302, 60), (60, .invokevirtual 1039045, 63), (63, .invokevirtual 1041052, 66), (66, .aload 0, 67), (67, .getfield 250303, 70), (70, .invokevirtual 1042053, 73), (73, .istore 2, 74), (74, .aload 0, 75), (75, .getfield 290307, 78), (78, .iconst (-1), 79), (79, .if_icmp .eq 91, 82), (82, .iload 2, 83), (83, .aload 0, 84), (84, .getfield 290307, 87), (87, .if_icmp .le 91, 90), (90, .return_, 91), (91, .iconst 0, 92), (92, .istore 3, 93), (93, .iload 3, 94), (94, .iload 1, 95), (95, .if_icmp .ge 127, 98), (98, .aload 0, 99), (99, .getfield 250303, 102), (102, .aload 0, 103), (103, .getfield 260304, 106), (106, .iload 3, 107), (107, .aaload, 108), (108, .aload 0, 109), (109, .getfield 270305, 112), (112, .iload 3, 113), (113, .iaload, 114), (114, .invokevirtual 1043054, 117), (117, .ifCond .ne 121, 120), (120, .return_, 121), (121, .iinc 3 1, 124), (124, .goto 93, 127), (127, .aload 0, 128), (128, .getfield 290307, 131), (131, .iconst (-1), 132), (132, .if_icmp .eq 143, 135), (135, .iload 2, 136), (136, .aload 0, 137), (137, .getfield 290307, 140), (140, .if_icmp .ge 147, 143), (143, .iconst 1, 144), (144, .goto 148, 147), (147, .iconst 0, 148), (148, .istore 3, 149), (149, .aload 0, 150), (150, .iload 3, 151), (151, .ifCond .eq 158, 154), (154, .iconst 1, 155), (155, .goto 164, 158), (158, .aload 0, 159), (159, .getfield 300308, 162), (162, .iconst 1, 163), (163, .iadd, 164), (164, .putfield 300308, 167), (167, .iload 3, 168), (168, .ifCond .ne 181, 171), (171, .iload 1, 172), (172, .iconst 1, 173), (173, .iadd, 174), (174, .aload 0, 175), (175, .getfield 320310, 178), (178, .if_icmp .ge 202, 181), (181, .aload 0, 182), (182, .iload 2, 183), (183, .putfield 290307, 186), (186, .aload 0, 187), (187, .iload 1, 188), (188, .iconst 1, 189), (189, .iadd, 190), (190, .putfield 320310, 193), (193, .aload 0, 194), (194, .aload 0, 195), (195, .iload 1, 196), (196, .invokevirtual 36055, 199), (199, .putfield 310309, 202), (202, .return_, 203)]
/-- BoxSpider$Line.begin(II)V -/
def pr_51 : List (Nat × Instr × Nat) := [(0, .aload 0, 1), (1, .iload 1, 2), (2, .putfield 100000, 5), (5, .aload 0, 6), (6, .iload 2, 7), (7, .putfield 110001, 10), (10, .return_, 11)]
/-- BoxSpider$Line.end(II)V -/
def pr_52 : List (Nat × Instr × Nat) := [(0, .aload 0, 1), (1, .iload 1, 2), (2, .putfield 120002, 5), (5, .aload 0, 6), (6, .iload 2, 7), (7, .putfield 130003, 10), (10, .return_, 11)]
/-- BoxSpider$Line.square()I -/
def pr_53 : List (Nat × Instr × Nat) := [(0, .aload 0, 1), (1, .getfield 120002, 4), (4, .aload 0, 5), (5, .getfield 100000, 8), (8, .isub, 9), (9, .aload 0, 10), (10, .getfield 120002, 13), (13, .aload 0, 14), (14, .getfield 100000, 17), (17, .isub, 18), (18, .imul, 19), (19, .aload 0, 20), (20, .getfield 130003, 23), (23, .aload 0, 24), (24, .getfield 110001, 27), (27, .isub, 28), (28, .aload 0, 29), (29, .getfield 130003, 32), (32, .aload 0, 33), (33, .getfield 110001, 36), (36, .isub, 37), (37, .imul, 38), (38, .iadd, 39), (39, .ireturn, 40)]
/-- BoxSpider$Line.meets(LBoxSpider$Stand;I)Z -/
def pr_54 : List (Nat × Instr × Nat) := [(0, .iload 2, 1), (1, .iconst 1, 2), (2, .if_icmp .eq 10, 5), (5, .iload 2, 6), (6, .iconst 2, 7), (7, .if_icmp .ne 14, 10), (10, .iconst 1, 11), (11, .goto 15, 14), (14, .iconst 0, 15), (15, .istore 3, 16), (16, .iload 3, 17), (17, .ifCond .eq 32, 20), (20, .aload 0, 21), (21, .getfield 120002, 24), (24, .aload 0, 25), (25, .getfield 100000, 28), (28, .isub, 29), (29, .goto 41, 32), (32, .aload 0, 33), (33, .getfield 130003, 36), (36, .aload 0, 37), (37, .getfield 110001, 40), (40, .isub, 41), (41, .istore 4, 43), (43, .iload 3, 44), (44, .ifCond .eq 59, 47), (47, .aload 0, 48), (48, .getfield 130003, 51), (51, .aload 0, 52), (52, .getfield 110001, 55), (55, .isub, 56), (56, .goto 68, 59), (59, .aload 0, 60), (60, .getfield 120002, 63), (63, .aload 0, 64), (64, .getfield 100000, 67), (67, .isub, 68), (68, .istore 5, 70), (70, .iload 3, 71), (71, .ifCond .eq 86, 74), (74, .aload 1, 75), (75, .getfield 10120603, 78), (78, .aload 0, 79), (79, .getfield 100000, 82), (82, .isub, 83), (83, .goto 95, 86), (86, .aload 1, 87), (87, .getfield 10140604, 90), (90, .aload 0, 91), (91, .getfield 110001, 94), (94, .isub, 95), (95, .istore 6, 97), (97, .iload 3, 98), (98, .ifCond .eq 113, 101), (101, .aload 1, 102), (102, .getfield 10140604, 105), (105, .aload 0, 106), (106, .getfield 110001, 109), (109, .isub, 110), (110, .goto 122, 113), (113, .aload 1, 114), (114, .getfield 10120603, 117), (117, .aload 0, 118), (118, .getfield 100000, 121), (121, .isub, 122), (122, .istore 7, 124), (124, .iload 7, 126), (126, .iload 3, 127), (127, .ifCond .eq 137, 130), (130, .aload 1, 131), (131, .getfield 10180606, 134), (134, .goto 141, 137), (137, .aload 1, 138), (138, .getfield 10160605, 141), (141, .iadd, 142), (142, .istore 8, 144), (144, .iload 2, 145), (145, .iconst 1, 146), (146, .if_icmp .ne 161, 149), (149, .iload 6, 151), (151, .aload 1, 152), (152, .getfield 10160605, 155), (155, .iadd, 156), (156, .istore 6, 158), (158, .goto 175, 161), (161, .iload 2, 162), (162, .iconst 3, 163), (163, .if_icmp .ne 175, 166), (166, .iload 6, 168), (168, .aload 1, 169), (169, .getfield 10180606, 172), (172, .iadd, 173), (173, .istore 6, 175), (175, .iload 4, 177), (177, .ifCond .ne 215, 180), (180, .iload 6, 182), (182, .ifCond .ne 213, 185), (185, .iload 7, 187), (187, .ifCond .le 197, 190), (190, .iload 7, 192), (192, .iload 5, 194), (194, .if_icmp .gt 213, 197), (197, .iload 8, 199), (199, .ifCond .ge 209, 202), (202, .iload 8, 204), (204, .iload 5, 206), (206, .if_icmp .lt 213, 209), (209, .iconst 1, 210), (210, .goto 214, 213), (213, .iconst 0, 214), (214, .ireturn, 215), (215, .iload 4, 217), (217, .ifCond .ge 230, 220), (220, .iload 4, 222), (222, .ineg, 223), (223, .istore 4, 225), (225, .iload 6, 227), (227, .ineg, 228), (228, .istore 6, 230), (230, .iload 5, 232), (232, .iload 6, 234), (234, .imul, 235), (235, .istore 9, 237), (237, .iload 6, 239), (239, .ifCond .lt 273, 242), (242, .iload 6, 244), (244, .iload 4, 246), (246, .if_icmp .gt 273, 249), (249, .iload 7, 251), (251, .iload 4, 253), (253, .imul, 254), (254, .iload 9, 256), (256, .if_icmp .gt 273, 259), (259, .iload 9, 261), (261, .iload 8, 263), (263, .iload 4, 265), (265, .imul, 266), (266, .if_icmp .gt 273, 269), (269, .iconst 1, 270), (270, .goto 274, 273), (273, .iconst 0, 274), (274, .ireturn, 275)]
/-- BoxSpider$Search.packedRow(I)I -/
def pr_55 : List (Nat × Instr × Nat) := [(0, .iconst 0, 1), (1, .istore 2, 2), (2, .iconst 0, 3), (3, .istore 3, 4), (4, .iload 3, 5), (5, .iload 1, 6), (6, .if_icmp .gt 33, 9), (9, .iload 2, 10), (10, .aload 0, 11), (11, .getfield 260304, 14), (14, .iload 3, 15), (15, .aaload, 16), (16, .getfield 10100600, 19), (19, .iconst 1, 20), (20, .iadd, 21), (21, .iconst 3, 22), (22, .iload 3, 23), (23, .imul, 24), (24, .ishl, 25), (25, .ior, 26), (26, .istore 2, 27), (27, .iinc 3 1, 30), (30, .goto 4, 33), (33, .iload 2, 34), (34, .ireturn, 35)]
/-- BoxSpider$Stand.rollTo(I)I -/
def pr_56 : List (Nat × Instr × Nat) := [(0, .iload 1, 1), (1, .aload 0, 2), (2, .getfield 150601, 5), (5, .if_icmp .ne 10, 8), (8, .iconst 1, 9), (9, .ireturn, 10), (10, .iload 1, 11), (11, .aload 0, 12), (12, .getfield 150601, 15), (15, .iconst 1, 16), (16, .ixor, 17), (17, .if_icmp .ne 22, 20), (20, .iconst 2, 21), (21, .ireturn, 22), (22, .iload 1, 23), (23, .aload 0, 24), (24, .getfield 160602, 27), (27, .if_icmp .ne 32, 30), (30, .iconst 3, 31), (31, .ireturn, 32), (32, .iload 1, 33), (33, .aload 0, 34), (34, .getfield 160602, 37), (37, .iconst 1, 38), (38, .ixor, 39), (39, .if_icmp .ne 46, 42), (42, .iconst 4, 43), (43, .goto 47, 46), (46, .iconst 0, 47), (47, .ireturn, 48)]
/-- BoxSpider$Stand.follow(LBoxSpider$Stand;I)V -/
def pr_57 : List (Nat × Instr × Nat) := [(0, .aload 0, 1), (1, .aload 1, 2), (2, .getfield 140600, 5), (5, .putfield 140600, 8), (8, .aload 0, 9), (9, .aload 1, 10), (10, .getfield 150601, 13), (13, .putfield 150601, 16), (16, .aload 0, 17), (17, .aload 1, 18), (18, .getfield 160602, 21), (21, .putfield 160602, 24), (24, .aload 0, 25), (25, .aload 1, 26), (26, .getfield 170603, 29), (29, .putfield 170603, 32), (32, .aload 0, 33), (33, .aload 1, 34), (34, .getfield 180604, 37), (37, .putfield 180604, 40), (40, .aload 0, 41), (41, .aload 1, 42), (42, .getfield 190605, 45), (45, .putfield 190605, 48), (48, .aload 0, 49), (49, .aload 1, 50), (50, .getfield 200606, 53), (53, .putfield 200606, 56), (56, .aload 0, 57), (57, .aload 1, 58), (58, .getfield 210607, 61), (61, .putfield 210607, 64), (64, .aload 0, 65), (65, .iload 2, 66), (66, .invokevirtual 37041, 69), (69, .return_, 70)]
/-- BoxSpider.ways(II)I -/
def pr_58 : List (Nat × Instr × Nat) := [(0, .iload 1, 1), (1, .invokestatic 16018, 4), (4, .ifCond .eq 14, 7), (7, .iload 2, 8), (8, .invokestatic 16018, 11), (11, .ifCond .ne 17, 14), (14, .iconst (-2), 16), (16, .ireturn, 17), (17, .aload 0, 18), (18, .getfield 490903, 21), (21, .getfield 10300703, 24), (24, .aload 0, 25), (25, .getfield 490903, 28), (28, .iload 1, 29), (29, .iload 2, 30), (30, .invokevirtual 1032047, 33), (33, .iaload, 34), (34, .ireturn, 35)]
/-- BoxSpider.face(III)I -/
def pr_59 : List (Nat × Instr × Nat) := [(0, .iload 1, 1), (1, .invokestatic 16018, 4), (4, .ifCond .eq 23, 7), (7, .iload 2, 8), (8, .invokestatic 16018, 11), (11, .ifCond .eq 23, 14), (14, .iload 3, 15), (15, .ifCond .lt 23, 18), (18, .iload 3, 19), (19, .iconst 5, 20), (20, .if_icmp .lt 26, 23), (23, .iconst (-2), 25), (25, .ireturn, 26), (26, .aload 0, 27), (27, .getfield 490903, 30), (30, .getfield 10310704, 33), (33, .aload 0, 34), (34, .getfield 490903, 37), (37, .iload 1, 38), (38, .iload 2, 39), (39, .invokevirtual 1032047, 42), (42, .iaload, 43), (43, .iload 3, 44), (44, .invokestatic 1046060, 47), (47, .ireturn, 48)]
/-- BoxSpider$Search.wallInRow(II)I -/
def pr_60 : List (Nat × Instr × Nat) := [(0, .iload 0, 1), (1, .iconst 3, 2), (2, .iload 1, 3), (3, .imul, 4), (4, .ishr, 5), (5, .iconst 7, 7), (7, .iand, 8), (8, .iconst 1, 9), (9, .isub, 10), (10, .ireturn, 11)]
/-- BoxSpider.farthest(I)I -/
def pr_61 : List (Nat × Instr × Nat) := [(0, .iload 1, 1), (1, .invokestatic 16018, 4), (4, .ifCond .ne 10, 7), (7, .iconst (-2), 9), (9, .ireturn, 10), (10, .iconst (-1), 11), (11, .istore 2, 12), (12, .iconst (-1), 13), (13, .istore 3, 14), (14, .iconst 0, 15), (15, .istore 4, 17), (17, .iload 4, 19), (19, .iconst 8, 21), (21, .if_icmp .ge 62, 24), (24, .aload 0, 25), (25, .getfield 490903, 28), (28, .getfield 10290702, 31), (31, .aload 0, 32), (32, .getfield 490903, 35), (35, .iload 1, 36), (36, .iload 4, 38), (38, .invokevirtual 1032047, 41), (41, .iaload, 42), (42, .istore 5, 44), (44, .iload 5, 46), (46, .iload 3, 47), (47, .if_icmp .le 56, 50), (50, .iload 5, 52), (52, .istore 3, 53), (53, .iload 4, 55), (55, .istore 2, 56), (56, .iinc 4 1, 59), (59, .goto 17, 62), (62, .iload 2, 63), (63, .ireturn, 64)]
/-- BoxSpider.sit()I -/
def pr_62 : List (Nat × Instr × Nat) := [(0, .iconst (-1), 1), (1, .istore 1, 2), (2, .iconst (-1), 3), (3, .istore 2, 4), (4, .iconst 0, 5), (5, .istore 3, 6), (6, .iload 3, 7), (7, .iconst 8, 9), (9, .if_icmp .ge 47, 12), (12, .aload 0, 13), (13, .iload 3, 14), (14, .invokevirtual 42063, 17), (17, .istore 4, 19), (19, .iload 4, 21), (21, .iconst (-1), 22), (22, .if_icmp .eq 41, 25), (25, .iload 1, 26), (26, .iconst (-1), 27), (27, .if_icmp .eq 36, 30), (30, .iload 4, 32), (32, .iload 2, 33), (33, .if_icmp .ge 41, 36), (36, .iload 4, 38), (38, .istore 2, 39), (39, .iload 3, 40), (40, .istore 1, 41), (41, .iinc 3 1, 44), (44, .goto 6, 47), (47, .iload 1, 48), (48, .ireturn, 49)]
/-- BoxSpider.reachOf(I)I -/
def pr_63 : List (Nat × Instr × Nat) := [(0, .iconst 0, 1), (1, .istore 2, 2), (2, .iconst 0, 3), (3, .istore 3, 4), (4, .iload 3, 5), (5, .iconst 8, 7), (7, .if_icmp .ge 50, 10), (10, .aload 0, 11), (11, .getfield 490903, 14), (14, .getfield 10290702, 17), (17, .aload 0, 18), (18, .getfield 490903, 21), (21, .iload 1, 22), (22, .iload 3, 23), (23, .invokevirtual 1032047, 26), (26, .iaload, 27), (27, .istore 4, 29), (29, .iload 4, 31), (31, .iconst (-1), 32), (32, .if_icmp .ne 37, 35), (35, .iconst (-1), 36), (36, .ireturn, 37), (37, .iload 2, 38), (38, .iload 4, 40), (40, .invokestatic 43503, 43), (43, .istore 2, 44), (44, .iinc 3 1, 47), (47, .goto 4, 50), (50, .iload 2, 51), (51, .ireturn, 52)]
/-- BoxSpider.nearer(II)I -/
def pr_64 : List (Nat × Instr × Nat) := [(0, .iload 1, 1), (1, .invokestatic 16018, 4), (4, .ifCond .eq 19, 7), (7, .iload 2, 8), (8, .invokestatic 16018, 11), (11, .ifCond .eq 19, 14), (14, .iload 1, 15), (15, .iload 2, 16), (16, .if_icmp .ne 22, 19), (19, .iconst (-2), 21), (21, .ireturn, 22), (22, .iconst 0, 23), (23, .istore 3, 24), (24, .iconst 0, 25), (25, .istore 4, 27), (27, .iload 4, 29), (29, .iconst 8, 31), (31, .if_icmp .ge 106, 34), (34, .aload 0, 35), (35, .getfield 490903, 38), (38, .getfield 10290702, 41), (41, .aload 0, 42), (42, .getfield 490903, 45), (45, .iload 1, 46), (46, .iload 4, 48), (48, .invokevirtual 1032047, 51), (51, .iaload, 52), (52, .istore 5, 54), (54, .aload 0, 55), (55, .getfield 490903, 58), (58, .getfield 10290702, 61), (61, .aload 0, 62), (62, .getfield 490903, 65), (65, .iload 2, 66), (66, .iload 4, 68), (68, .invokevirtual 1032047, 71), (71, .iaload, 72), (72, .istore 6, 74), (74, .iload 5, 76), (76, .iconst (-1), 77), (77, .if_icmp .eq 100, 80), (80, .iload 6, 82), (82, .iconst (-1), 83), (83, .if_icmp .eq 93, 86), (86, .iload 5, 88), (88, .iload 6, 90), (90, .if_icmp .ge 100, 93), (93, .iload 3, 94), (94, .iconst 1, 95), (95, .iload 4, 97), (97, .ishl, 98), (98, .ior, 99), (99, .istore 3, 100), (100, .iinc 4 1, 103), (103, .goto 27, 106), (106, .iload 3, 107), (107, .ireturn, 108)]
/-- BoxSpider.wires(II)I -/
def pr_65 : List (Nat × Instr × Nat) := [(0, .iload 1, 1), (1, .ifCond .lt 17, 4), (4, .iload 1, 5), (5, .iconst 256, 8), (8, .if_icmp .ge 17, 11), (11, .iload 2, 12), (12, .iconst (-2), 14), (14, .if_icmp .ge 20, 17), (17, .iconst (-2), 19), (19, .ireturn, 20), (20, .aload 0, 21), (21, .getfield 500904, 24), (24, .invokevirtual 1047066, 27), (27, .iconst 1, 28), (28, .istore 3, 29), (29, .iconst 1, 30), (30, .istore 4, 32), (32, .iload 4, 34), (34, .iconst 8, 36), (36, .if_icmp .ge 62, 39), (39, .iload 3, 40), (40, .ifCond .eq 62, 43), (43, .aload 0, 44), (44, .getfield 500904, 47), (47, .aload 0, 48), (48, .getfield 490903, 51), (51, .iload 1, 52), (52, .invokevirtual 1048067, 55), (55, .istore 3, 56), (56, .iinc 4 1, 59), (59, .goto 32, 62), (62, .iload 2, 63), (63, .iconst (-1), 64), (64, .if_icmp .ne 75, 67), (67, .aload 0, 68), (68, .getfield 500904, 71), (71, .getfield 10330802, 74), (74, .ireturn, 75), (75, .iload 2, 76), (76, .iconst (-2), 78), (78, .if_icmp .ne 89, 81), (81, .aload 0, 82), (82, .getfield 500904, 85), (85, .getfield 10340803, 88), (88, .ireturn, 89), (89, .iload 2, 90), (90, .aload 0, 91), (91, .getfield 500904, 94), (94, .getfield 10330802, 97), (97, .if_icmp .ge 112, 100), (100, .aload 0, 101), (101, .getfield 500904, 104), (104, .getfield 10320801, 107), (107, .iload 2, 108), (108, .iaload, 109), (109, .goto 113, 112), (112, .iconst (-1), 113), (113, .ireturn, 114)]
/-- BoxSpider$Wiring.clear()V -/
def pr_66 : List (Nat × Instr × Nat) := [(0, .aload 0, 1), (1, .iconst 0, 2), (2, .putfield 410802, 5), (5, .aload 0, 6), (6, .iconst 0, 7), (7, .putfield 420803, 10), (10, .iconst 0, 11), (11, .istore 1, 12), (12, .iload 1, 13), (13, .iconst 8, 15), (15, .if_icmp .ge 31, 18), (18, .aload 0, 19), (19, .getfield 390800, 22), (22, .iload 1, 23), (23, .iload 1, 24), (24, .iastore, 25), (25, .iinc 1 1, 28), (28, .goto 12, 31), (31, .return_, 32)]
/-- BoxSpider$Wiring.joinNext(LBoxSpider$Table;I)Z -/
def pr_67 : List (Nat × Instr × Nat) := [(0, .iconst (-1), 1), (1, .istore 3, 2), (2, .iconst (-1), 3), (3, .istore 4, 5), (5, .iconst 0, 6), (6, .istore 5, 8), (8, .iload 5, 10), (10, .iconst 64, 12), (12, .if_icmp .ge 77, 15), (15, .aload 0, 16), (16, .iload 5, 18), (18, .iload 2, 19), (19, .invokevirtual 46068, 22), (22, .ifCond .eq 71, 25), (25, .aload 1, 26), (26, .getfield 10280702, 29), (29, .aload 1, 30), (30, .iload 5, 32), (32, .iconst 8, 34), (34, .idiv, 35), (35, .iload 5, 37), (37, .iconst 8, 39), (39, .irem, 40), (40, .invokevirtual 1049047, 43), (43, .iaload, 44), (44, .istore 6, 46), (46, .iload 6, 48), (48, .iconst (-1), 49), (49, .if_icmp .eq 71, 52), (52, .iload 3, 53), (53, .iconst (-1), 54), (54, .if_icmp .eq 64, 57), (57, .iload 6, 59), (59, .iload 4, 61), (61, .if_icmp .ge 71, 64), (64, .iload 5, 66), (66, .istore 3, 67), (67, .iload 6, 69), (69, .istore 4, 71), (71, .iinc 5 1, 74), (74, .goto 8, 77), (77, .iload 3, 78), (78, .iconst (-1), 79), (79, .if_icmp .eq 91, 82), (82, .aload 0, 83), (83, .getfield 410802, 86), (86, .iconst 8, 88), (88, .if_icmp .lt 93, 91), (91, .iconst 0, 92), (92, .ireturn, 93), (93, .aload 0, 94), (94, .getfield 400801, 97), (97, .aload 0, 98), (98, .getfield 410802, 101), (101, .iload 3, 102), (102, .iastore, 103), (103, .aload 0, 104), (104, .dup, 105), (105, .getfield 410802, 108), (108, .iconst 1, 109), (109, .iadd, 110), (110, .putfield 410802, 113), (113, .aload 0, 114), (114, .iload 4, 116), (116, .putfield 420803, 119), (119, .aload 0, 120), (120, .aload 0, 121), (121, .getfield 390800, 124), (124, .iload 3, 125), (125, .iconst 8, 127), (127, .idiv, 128), (128, .iaload, 129), (129, .aload 0, 130), (130, .getfield 390800, 133), (133, .iload 3, 134), (134, .iconst 8, 136), (136, .irem, 137), (137, .iaload, 138), (138, .invokevirtual 47069, 141), (141, .iconst 1, 142), (142, .ireturn, 143)]
/-- BoxSpider$Wiring.isOpen(II)Z -/
def pr_68 : List (Nat × Instr × Nat) := [(0, .iload 1, 1), (1, .iconst 8, 3), (3, .idiv, 4), (4, .istore 3, 5), (5, .iload 1, 6), (6, .iconst 8, 8), (8, .irem, 9), (9, .istore 4, 11), (11, .iload 2, 12), (12, .iload 3, 13), (13, .ishr, 14), (14, .iconst 1, 15), (15, .iand, 16), (16, .iconst 1, 17), (17, .if_icmp .ne 34, 20), (20, .iload 2, 21), (21, .iload 4, 23), (23, .ishr, 24), (24, .iconst 1, 25), (25, .iand, 26), (26, .iconst 1, 27), (27, .if_icmp .ne 34, 30), (30, .iconst 1, 31), (31, .goto 35, 34), (34, .iconst 0, 35), (35, .istore 5, 37), (37, .iload 3, 38), (38, .iload 4, 40), (40, .if_icmp .ge 68, 43), (43, .iload 5, 45), (45, .ifCond .eq 68, 48), (48, .aload 0, 49), (49, .getfield 390800, 52), (52, .iload 3, 53), (53, .iaload, 54), (54, .aload 0, 55), (55, .getfield 390800, 58), (58, .iload 4, 60), (60, .iaload, 61), (61, .if_icmp .eq 68, 64), (64, .iconst 1, 65), (65, .goto 69, 68), (68, .iconst 0, 69), (69, .ireturn, 70)]
/-- BoxSpider$Wiring.unite(II)V -/
def pr_69 : List (Nat × Instr × Nat) := [(0, .iconst 0, 1), (1, .istore 3, 2), (2, .iload 3, 3), (3, .iconst 8, 5), (5, .if_icmp .ge 31, 8), (8, .aload 0, 9), (9, .getfield 390800, 12), (12, .iload 3, 13), (13, .iaload, 14), (14, .iload 2, 15), (15, .if_icmp .ne 25, 18), (18, .aload 0, 19), (19, .getfield 390800, 22), (22, .iload 3, 23), (23, .iload 1, 24), (24, .iastore, 25), (25, .iinc 3 1, 28), (28, .goto 2, 31), (31, .return_, 32)]
/-- BoxSpider.within(II)I -/
def pr_70 : List (Nat × Instr × Nat) := [(0, .iload 1, 1), (1, .invokestatic 16018, 4), (4, .ifCond .eq 14, 7), (7, .iload 2, 8), (8, .invokestatic 49071, 11), (11, .ifCond .ne 17, 14), (14, .iconst (-2), 16), (16, .ireturn, 17), (17, .iconst 0, 18), (18, .istore 3, 19), (19, .iconst 0, 20), (20, .istore 4, 22), (22, .iload 4, 24), (24, .iconst 8, 26), (26, .if_icmp .ge 49, 29), (29, .aload 0, 30), (30, .iload 1, 31), (31, .iload 4, 33), (33, .iload 2, 34), (34, .invokevirtual 50072, 37), (37, .ifCond .eq 43, 40), (40, .iinc 3 1, 43), (43, .iinc 4 1, 46), (46, .goto 22, 49), (49, .iload 3, 50), (50, .ireturn, 51)]
/-- BoxSpider.isLength(I)Z -/
def pr_71 : List (Nat × Instr × Nat) := [(0, .iload 0, 1), (1, .ifCond .lt 15, 4), (4, .iload 0, 5), (5, .iconst 9999, 8), (8, .if_icmp .gt 15, 11), (11, .iconst 1, 12), (12, .goto 16, 15), (15, .iconst 0, 16), (16, .ireturn, 17)]
/-- BoxSpider.isNear(III)Z -/
def pr_72 : List (Nat × Instr × Nat) := [(0, .aload 0, 1), (1, .getfield 490903, 4), (4, .getfield 10290702, 7), (7, .aload 0, 8), (8, .getfield 490903, 11), (11, .iload 1, 12), (12, .iload 2, 13), (13, .invokevirtual 1032047, 16), (16, .iaload, 17), (17, .istore 4, 19), (19, .iload 4, 21), (21, .iconst (-1), 22), (22, .if_icmp .eq 35, 25), (25, .iload 4, 27), (27, .iload 3, 28), (28, .if_icmp .gt 35, 31), (31, .iconst 1, 32), (32, .goto 36, 35), (35, .iconst 0, 36), (36, .ireturn, 37)]
/-- BoxSpider.told(IIII)I -/
def pr_73 : List (Nat × Instr × Nat) := [(0, .iload 1, 1), (1, .invokestatic 16018, 4), (4, .ifCond .eq 36, 7), (7, .iload 3, 8), (8, .invokestatic 16018, 11), (11, .ifCond .eq 36, 14), (14, .iload 2, 15), (15, .ifCond .lt 36, 18), (18, .iload 4, 20), (20, .iload 2, 21), (21, .if_icmp .lt 36, 24), (24, .iload 4, 26), (26, .aload 0, 27), (27, .getfield 470901, 30), (30, .invokevirtual 1025038, 33), (33, .if_icmp .le 39, 36), (36, .iconst (-2), 38), (38, .ireturn, 39), (39, .aload 0, 40), (40, .iload 2, 41), (41, .invokevirtual 31039, 44), (44, .aload 0, 45), (45, .getfield 460900, 48), (48, .iload 1, 49), (49, .aload 0, 50), (50, .getfield 540908, 53), (53, .invokevirtual 1018020, 56), (56, .aload 0, 57), (57, .getfield 540908, 60), (60, .aload 0, 61), (61, .getfield 520906, 64), (64, .getfield 10110600, 67), (67, .invokevirtual 1029043, 70), (70, .ifCond .ne 76, 73), (73, .iconst (-3), 75), (75, .ireturn, 76), (76, .aload 0, 77), (77, .getfield 530907, 80), (80, .aload 0, 81), (81, .getfield 520906, 84), (84, .aload 0, 85), (85, .getfield 540908, 88), (88, .invokevirtual 1030044, 91), (91, .aload 0, 92), (92, .getfield 520906, 95), (95, .aload 0, 96), (96, .getfield 540908, 99), (99, .invokevirtual 1031045, 102), (102, .invokevirtual 1050051, 105), (105, .aload 0, 106), (106, .iload 4, 108), (108, .invokevirtual 31039, 111), (111, .aload 0, 112), (112, .getfield 460900, 115), (115, .iload 3, 116), (116, .aload 0, 117), (117, .getfield 540908, 120), (120, .invokevirtual 1018020, 123), (123, .aload 0, 124), (124, .getfield 540908, 127), (127, .aload 0, 128), (128, .getfield 520906, 131), (131, .getfield 10110600, 134), (134, .invokevirtual 1029043, 137), (137, .ifCond .ne 143, 140), (140, .iconst (-3), 142), (142, .ireturn, 143), (143, .aload 0, 144), (144, .getfield 530907, 147), (147, .aload 0, 148), (148, .getfield 520906, 151), (151, .aload 0, 152), (152, .getfield 540908, 155), (155, .invokevirtual 1030044, 158), (158, .aload 0, 159), (159, .getfield 520906, 162), (162, .aload 0, 163), (163, .getfield 540908, 166), (166, .invokevirtual 1031045, 169), (169, .invokevirtual 1051052, 172), (172, .aload 0, 173), (173, .iload 2, 174), (174, .iload 4, 176), (176, .invokevirtual 52074, 179), (179, .ifCond .eq 192, 182), (182, .aload 0, 183), (183, .getfield 530907, 186), (186, .invokevirtual 1053053, 189), (189, .goto 194, 192), (192, .iconst (-3), 194), (194, .ireturn, 195)]
/-- BoxSpider.lineStaysWithin(II)Z -/
def pr_74 : List (Nat × Instr × Nat) := [(0, .aload 0, 1), (1, .iload 1, 2), (2, .invokevirtual 31039, 5), (5, .iload 1, 6), (6, .istore 3, 7), (7, .iload 3, 8), (8, .iload 2, 9), (9, .if_icmp .ge 100, 12), (12, .iload 3, 13), (13, .aload 0, 14), (14, .getfield 470901, 17), (17, .getfield 10090101, 20), (20, .if_icmp .ge 100, 23), (23, .aload 0, 24), (24, .getfield 470901, 27), (27, .getfield 10080100, 30), (30, .iload 3, 31), (31, .iaload, 32), (32, .invokestatic 1027032, 35), (35, .istore 4, 37), (37, .aload 0, 38), (38, .getfield 520906, 41), (41, .getfield 10110600, 44), (44, .istore 5, 46), (46, .aload 0, 47), (47, .getfield 530907, 50), (50, .aload 0, 51), (51, .getfield 520906, 54), (54, .iload 4, 56), (56, .invokevirtual 1052054, 59), (59, .ifCond .ne 64, 62), (62, .iconst 0, 63), (63, .ireturn, 64), (64, .aload 0, 65), (65, .getfield 520906, 68), (68, .iload 4, 70), (70, .invokevirtual 1028041, 73), (73, .aload 0, 74), (74, .getfield 460900, 77), (77, .iload 5, 79), (79, .aload 0, 80), (80, .getfield 520906, 83), (83, .getfield 10110600, 86), (86, .invokevirtual 1023035, 89), (89, .ifCond .eq 94, 92), (92, .iconst 0, 93), (93, .ireturn, 94), (94, .iinc 3 1, 97), (97, .goto 7, 100), (100, .iconst 1, 101), (101, .ireturn, 102)]
/-- BoxSpider.snail(IIII)I -/
def pr_75 : List (Nat × Instr × Nat) := [(0, .iload 1, 1), (1, .invokestatic 54076, 4), (4, .ifCond .eq 22, 7), (7, .iload 2, 8), (8, .invokestatic 54076, 11), (11, .ifCond .eq 22, 14), (14, .iload 1, 15), (15, .ifCond .ne 25, 18), (18, .iload 2, 19), (19, .ifCond .ne 25, 22), (22, .iconst (-2), 24), (24, .ireturn, 25), (25, .iload 3, 26), (26, .ifCond .lt 46, 29), (29, .iload 3, 30), (30, .iconst 30, 32), (32, .if_icmp .gt 46, 35), (35, .iload 4, 37), (37, .ifCond .lt 46, 40), (40, .iload 4, 42), (42, .iconst 1, 43), (43, .if_icmp .le 49, 46), (46, .iconst (-2), 48), (48, .ireturn, 49), (49, .aload 0, 50), (50, .iconst 0, 51), (51, .invokevirtual 31039, 54), (54, .aload 0, 55), (55, .getfield 520906, 58), (58, .getfield 10170605, 61), (61, .istore 5, 63), (63, .aload 0, 64), (64, .getfield 520906, 67), (67, .getfield 10190606, 70), (70, .istore 6, 72), (72, .iconst 0, 73), (73, .istore 7, 75), (75, .iconst 0, 76), (76, .istore 8, 78), (78, .iload 8, 80), (80, .iload 3, 81), (81, .if_icmp .ge 118, 84), (84, .aload 0, 85), (85, .iload 1, 86), (86, .iload 2, 87), (87, .iload 5, 89), (89, .iload 6, 91), (91, .invokevirtual 55077, 94), (94, .istore 7, 96), (96, .iload 7, 98), (98, .ifCond .ne 103, 101), (101, .iconst (-1), 102), (102, .ireturn, 103), (103, .aload 0, 104), (104, .getfield 520906, 107), (107, .iload 7, 109), (109, .invokevirtual 1028041, 112), (112, .iinc 8 1, 115), (115, .goto 78, 118), (118, .iload 4, 120), (120, .ifCond .ne 133, 123), (123, .aload 0, 124), (124, .getfield 520906, 127), (127, .getfield 10110600, 130), (130, .goto 135, 133), (133, .iload 7, 135), (135, .ireturn, 136)]
/-- BoxSpider.isSlope(I)Z -/
def pr_76 : List (Nat × Instr × Nat) := [(0, .iload 0, 1), (1, .iconst (-9), 3), (3, .if_icmp .lt 16, 6), (6, .iload 0, 7), (7, .iconst 9, 9), (9, .if_icmp .gt 16, 12), (12, .iconst 1, 13), (13, .goto 17, 16), (16, .iconst 0, 17), (17, .ireturn, 18)]
/-- BoxSpider.nextRoll(IIII)I -/
def pr_77 : List (Nat × Instr × Nat) := [(0, .iload 1, 1), (1, .ifCond .le 26, 4), (4, .iconst 2, 5), (5, .aload 0, 6), (6, .getfield 520906, 9), (9, .getfield 10130603, 12), (12, .aload 0, 13), (13, .getfield 520906, 16), (16, .getfield 10170605, 19), (19, .iadd, 20), (20, .imul, 21), (21, .iload 3, 22), (22, .isub, 23), (23, .goto 37, 26), (26, .iload 3, 27), (27, .iconst 2, 28), (28, .aload 0, 29), (29, .getfield 520906, 32), (32, .getfield 10130603, 35), (35, .imul, 36), (36, .isub, 37), (37, .istore 5, 39), (39, .iload 2, 40), (40, .ifCond .le 66, 43), (43, .iconst 2, 44), (44, .aload 0, 45), (45, .getfield 520906, 48), (48, .getfield 10150604, 51), (51, .aload 0, 52), (52, .getfield 520906, 55), (55, .getfield 10190606, 58), (58, .iadd, 59), (59, .imul, 60), (60, .iload 4, 62), (62, .isub, 63), (63, .goto 78, 66), (66, .iload 4, 68), (68, .iconst 2, 69), (69, .aload 0, 70), (70, .getfield 520906, 73), (73, .getfield 10150604, 76), (76, .imul, 77), (77, .isub, 78), (78, .istore 6, 80), (80, .iload 5, 82), (82, .iload 2, 83), (83, .invokestatic 56504, 86), (86, .imul, 87), (87, .istore 7, 89), (89, .iload 6, 91), (91, .iload 1, 92), (92, .invokestatic 56504, 95), (95, .imul, 96), (96, .istore 8, 98), (98, .iload 7, 100), (100, .iload 8, 102), (102, .if_icmp .ne 107, 105), (105, .iconst 0, 106), (106, .ireturn, 107), (107, .iload 7, 109), (109, .iload 8, 111), (111, .if_icmp .ge 124, 114), (114, .iload 1, 115), (115, .ifCond .le 122, 118), (118, .iconst 1, 119), (119, .goto 123, 122), (122, .iconst 2, 123), (123, .ireturn, 124), (124, .iload 2, 125), (125, .ifCond .le 132, 128), (128, .iconst 3, 129), (129, .goto 133, 132), (132, .iconst 4, 133), (133, .ireturn, 134)]
/-- BoxSpider.thread(IIII)I -/
def pr_78 : List (Nat × Instr × Nat) := [(0, .iload 1, 1), (1, .invokestatic 16018, 4), (4, .ifCond .eq 32, 7), (7, .iload 2, 8), (8, .invokestatic 16018, 11), (11, .ifCond .eq 32, 14), (14, .iload 3, 15), (15, .invokestatic 49071, 18), (18, .ifCond .eq 32, 21), (21, .iload 4, 23), (23, .ifCond .lt 32, 26), (26, .iload 4, 28), (28, .iconst 1, 29), (29, .if_icmp .le 35, 32), (32, .iconst (-2), 34), (34, .ireturn, 35), (35, .iconst 0, 36), (36, .istore 5, 38), (38, .iconst (-1), 39), (39, .istore 6, 41), (41, .iconst 30, 43), (43, .istore 7, 45), (45, .iload 7, 47), (47, .iconst 1, 48), (48, .if_icmp .lt 76, 51), (51, .aload 0, 52), (52, .iload 1, 53), (53, .iload 2, 54), (54, .iload 7, 56), (56, .invokevirtual 58079, 59), (59, .iload 3, 60), (60, .if_icmp .ne 70, 63), (63, .iinc 5 1, 66), (66, .iload 7, 68), (68, .istore 6, 70), (70, .iinc 7 (-1), 73), (73, .goto 45, 76), (76, .iload 4, 78), (78, .ifCond .ne 86, 81), (81, .iload 5, 83), (83, .goto 88, 86), (86, .iload 6, 88), (88, .ireturn, 89)]
/-- BoxSpider.lengthIfHigh(III)I -/
def pr_79 : List (Nat × Instr × Nat) := [(0, .aload 0, 1), (1, .getfield 460900, 4), (4, .getfield 10020200, 7), (7, .iconst 0, 8), (8, .aload 0, 9), (9, .getfield 550909, 12), (12, .iconst 0, 13), (13, .iconst 3, 14), (14, .invokestatic 59501, 17), (17, .aload 0, 18), (18, .getfield 550909, 21), (21, .iconst 0, 22), (22, .iload 3, 23), (23, .iastore, 24), (24, .aload 0, 25), (25, .getfield 480902, 28), (28, .getfield 10210301, 31), (31, .aload 0, 32), (32, .getfield 550909, 35), (35, .aload 0, 36), (36, .getfield 460900, 39), (39, .getfield 10030201, 42), (42, .iload 1, 43), (43, .iaload, 44), (44, .aload 0, 45), (45, .getfield 460900, 48), (48, .getfield 10040202, 51), (51, .iload 1, 52), (52, .iaload, 53), (53, .aload 0, 54), (54, .getfield 460900, 57), (57, .getfield 10050203, 60), (60, .iload 1, 61), (61, .iaload, 62), (62, .invokevirtual 1054014, 65), (65, .aload 0, 66), (66, .getfield 480902, 69), (69, .getfield 10230302, 72), (72, .aload 0, 73), (73, .getfield 550909, 76), (76, .aload 0, 77), (77, .getfield 460900, 80), (80, .getfield 10030201, 83), (83, .iload 2, 84), (84, .iaload, 85), (85, .aload 0, 86), (86, .getfield 460900, 89), (89, .getfield 10040202, 92), (92, .iload 2, 93), (93, .iaload, 94), (94, .aload 0, 95), (95, .getfield 460900, 98), (98, .getfield 10050203, 101), (101, .iload 2, 102), (102, .iaload, 103), (103, .invokevirtual 1054014, 106), (106, .aload 0, 107), (107, .getfield 480902, 110), (110, .getfield 10210301, 113), (113, .invokevirtual 1055015, 116), (116, .ifCond .eq 132, 119), (119, .aload 0, 120), (120, .getfield 480902, 123), (123, .getfield 10230302, 126), (126, .invokevirtual 1055015, 129), (129, .ifCond .ne 135, 132), (132, .iconst (-3), 134), (134, .ireturn, 135), (135, .aload 0, 136), (136, .getfield 480902, 139), (139, .aload 0, 140), (140, .getfield 550909, 143), (143, .invokevirtual 1056048, 146), (146, .aload 0, 147), (147, .getfield 480902, 150), (150, .getfield 10250307, 153), (153, .ireturn, 154)]
/-- BoxSpider.flies(IIII)I -/
def pr_80 : List (Nat × Instr × Nat) := [(0, .iload 1, 1), (1, .invokestatic 16018, 4), (4, .ifCond .eq 25, 7), (7, .iload 3, 8), (8, .ifCond .lt 25, 11), (11, .iload 3, 12), (12, .iconst 99, 14), (14, .if_icmp .gt 25, 17), (17, .iload 4, 19), (19, .invokestatic 49071, 22), (22, .ifCond .ne 28, 25), (25, .iconst (-2), 27), (27, .ireturn, 28), (28, .iconst 0, 29), (29, .istore 5, 31), (31, .iload 2, 32), (32, .istore 6, 34), (34, .iconst 0, 35), (35, .istore 7, 37), (37, .iload 7, 39), (39, .iload 3, 40), (40, .if_icmp .ge 82, 43), (43, .ldc 0, 46), (46, .iload 6, 48), (48, .imul, 49), (49, .iconst 12345, 52), (52, .iadd, 53), (53, .istore 6, 55), (55, .aload 0, 56), (56, .iload 1, 57), (57, .iload 6, 59), (59, .iconst 16, 61), (61, .iushr, 62), (62, .iconst 8, 64), (64, .irem, 65), (65, .iload 4, 67), (67, .invokevirtual 50072, 70), (70, .ifCond .eq 76, 73), (73, .iinc 5 1, 76), (76, .iinc 7 1, 79), (79, .goto 37, 82), (82, .iload 5, 84), (84, .ireturn, 85)]
/-- BoxSpider.sheet(III)I -/
def pr_81 : List (Nat × Instr × Nat) := [(0, .iload 1, 1), (1, .invokestatic 19023, 4), (4, .ifCond .eq 20, 7), (7, .iload 2, 8), (8, .invokestatic 62082, 11), (11, .ifCond .eq 20, 14), (14, .iload 3, 15), (15, .iconst 60, 17), (17, .if_icmp .le 23, 20), (20, .iconst (-2), 22), (22, .ireturn, 23), (23, .iload 3, 24), (24, .ifCond .ge 33, 27), (27, .aload 0, 28), (28, .iconst 5, 29), (29, .invokevirtual 20025, 32), (32, .ireturn, 33), (33, .aload 0, 34), (34, .getfield 510905, 37), (37, .iload 1, 38), (38, .aaload, 39), (39, .iload 2, 40), (40, .iload 3, 41), (41, .invokevirtual 1057083, 44), (44, .iload 3, 45), (45, .ireturn, 46)]
/-- BoxSpider.isForm(I)Z -/
def pr_82 : List (Nat × Instr × Nat) := [(0, .iload 0, 1), (1, .ifCond .lt 13, 4), (4, .iload 0, 5), (5, .iconst 3, 6), (6, .if_icmp .ge 13, 9), (9, .iconst 1, 10), (10, .goto 14, 13), (13, .iconst 0, 14), (14, .ireturn, 15)]
/-- BoxSpider$Sheet.renew(II)V -/
def pr_83 : List (Nat × Instr × Nat) := [(0, .aload 0, 1), (1, .iload 1, 2), (2, .putfield 440401, 5), (5, .aload 0, 6), (6, .iload 2, 7), (7, .putfield 450402, 10), (10, .iconst 0, 11), (11, .istore 3, 12), (12, .iload 3, 13), (13, .iconst 60, 15), (15, .if_icmp .ge 31, 18), (18, .aload 0, 19), (19, .getfield 430400, 22), (22, .iload 3, 23), (23, .iconst 0, 24), (24, .iastore, 25), (25, .iinc 3 1, 28), (28, .goto 12, 31), (31, .return_, 32)]
/-- BoxSpider.lose(I)I -/
def pr_84 : List (Nat × Instr × Nat) := [(0, .iload 1, 1), (1, .invokestatic 19023, 4), (4, .ifCond .ne 10, 7), (7, .iconst (-2), 9), (9, .ireturn, 10), (10, .aload 0, 11), (11, .getfield 510905, 14), (14, .iload 1, 15), (15, .aaload, 16), (16, .astore 2, 17), (17, .aload 2, 18), (18, .invokevirtual 1020024, 21), (21, .ifCond .eq 30, 24), (24, .aload 0, 25), (25, .iconst 1, 26), (26, .invokevirtual 20025, 29), (29, .ireturn, 30), (30, .aload 2, 31), (31, .iconst (-1), 32), (32, .putfield 10360401, 35), (35, .aload 2, 36), (36, .getfield 10370402, 39), (39, .ireturn, 40)]
/-- BoxSpider.lay(IIII)I -/
def pr_85 : List (Nat × Instr × Nat) := [(0, .iload 1, 1), (1, .invokestatic 19023, 4), (4, .ifCond .eq 14, 7), (7, .iload 2, 8), (8, .invokestatic 62082, 11), (11, .ifCond .ne 17, 14), (14, .iconst (-2), 16), (16, .ireturn, 17), (17, .aload 0, 18), (18, .getfield 510905, 21), (21, .iload 1, 22), (22, .aaload, 23), (23, .iload 2, 24), (24, .iload 3, 25), (25, .invokevirtual 1058086, 28), (28, .istore 5, 30), (30, .iload 5, 32), (32, .ifCond .eq 42, 35), (35, .aload 0, 36), (36, .iload 5, 38), (38, .invokevirtual 20025, 41), (41, .ireturn, 42), (42, .aload 0, 43), (43, .getfield 510905, 46), (46, .iload 1, 47), (47, .aaload, 48), (48, .iload 3, 49), (49, .iload 4, 51), (51, .invokevirtual 1059087, 54), (54, .iconst 1, 55), (55, .ireturn, 56)]
/-- BoxSpider$Sheet.findingAt(II)I -/
def pr_86 : List (Nat × Instr × Nat) := [(0, .aload 0, 1), (1, .invokevirtual 65024, 4), (4, .ifCond .eq 9, 7), (7, .iconst 1, 8), (8, .ireturn, 9), (9, .aload 0, 10), (10, .getfield 440401, 13), (13, .iload 1, 14), (14, .if_icmp .eq 19, 17), (17, .iconst 3, 18), (18, .ireturn, 19), (19, .iload 2, 20), (20, .ifCond .lt 31, 23), (23, .iload 2, 24), (24, .aload 0, 25), (25, .getfield 450402, 28), (28, .if_icmp .lt 35, 31), (31, .iconst 2, 32), (32, .goto 36, 35), (35, .iconst 0, 36), (36, .ireturn, 37)]
/-- BoxSpider$Sheet.put(II)V -/
def pr_87 : List (Nat × Instr × Nat) := [(0, .aload 0, 1), (1, .getfield 440401, 4), (4, .ifCond .ne 18, 7), (7, .aload 0, 8), (8, .getfield 430400, 11), (11, .iload 1, 12), (12, .iload 2, 13), (13, .i2b, 14), (14, .iastore, 15), (15, .goto 44, 18), (18, .aload 0, 19), (19, .getfield 440401, 22), (22, .iconst 1, 23), (23, .if_icmp .ne 37, 26), (26, .aload 0, 27), (27, .getfield 430400, 30), (30, .iload 1, 31), (31, .iload 2, 32), (32, .i2s, 33), (33, .iastore, 34), (34, .goto 44, 37), (37, .aload 0, 38), (38, .getfield 430400, 41), (41, .iload 1, 42), (42, .iload 2, 43), (43, .iastore, 44), (44, .return_, 45)]
/-- BoxSpider.get(III)I -/
def pr_88 : List (Nat × Instr × Nat) := [(0, .iload 1, 1), (1, .invokestatic 19023, 4), (4, .ifCond .eq 14, 7), (7, .iload 2, 8), (8, .invokestatic 62082, 11), (11, .ifCond .ne 18, 14), (14, .ldc 1, 17), (17, .ireturn, 18), (18, .aload 0, 19), (19, .getfield 510905, 22), (22, .iload 1, 23), (23, .aaload, 24), (24, .iload 2, 25), (25, .iload 3, 26), (26, .invokevirtual 1058086, 29), (29, .istore 4, 31), (31, .iload 4, 33), (33, .ifCond .eq 46, 36), (36, .aload 0, 37), (37, .iload 4, 39), (39, .putfield 560910, 42), (42, .ldc 1, 45), (45, .ireturn, 46), (46, .aload 0, 47), (47, .getfield 510905, 50), (50, .iload 1, 51), (51, .aaload, 52), (52, .getfield 10350400, 55), (55, .iload 3, 56), (56, .iaload, 57), (57, .ireturn, 58)]
/-- BoxSpider.copy(IIIII)I -/
def pr_89 : List (Nat × Instr × Nat) := [(0, .iload 1, 1), (1, .invokestatic 19023, 4), (4, .ifCond .eq 14, 7), (7, .iload 3, 8), (8, .invokestatic 19023, 11), (11, .ifCond .ne 17, 14), (14, .iconst (-2), 16), (16, .ireturn, 17), (17, .aload 0, 18), (18, .getfield 510905, 21), (21, .iload 1, 22), (22, .aaload, 23), (23, .astore 6, 25), (25, .aload 0, 26), (26, .getfield 510905, 29), (29, .iload 3, 30), (30, .aaload, 31), (31, .astore 7, 33), (33, .aload 6, 35), (35, .invokevirtual 1020024, 38), (38, .ifCond .ne 49, 41), (41, .aload 7, 43), (43, .invokevirtual 1020024, 46), (46, .ifCond .eq 55, 49), (49, .aload 0, 50), (50, .iconst 1, 51), (51, .invokevirtual 20025, 54), (54, .ireturn, 55), (55, .aload 6, 57), (57, .getfield 10360401, 60), (60, .aload 7, 62), (62, .getfield 10360401, 65), (65, .if_icmp .eq 74, 68), (68, .aload 0, 69), (69, .iconst 4, 70), (70, .invokevirtual 20025, 73), (73, .ireturn, 74), (74, .aload 6, 76), (76, .iload 2, 77), (77, .iload 5, 79), (79, .invokevirtual 1060090, 82), (82, .ifCond .eq 97, 85), (85, .aload 7, 87), (87, .iload 4, 89), (89, .iload 5, 91), (91, .invokevirtual 1060090, 94), (94, .ifCond .ne 103, 97), (97, .aload 0, 98), (98, .iconst 2, 99), (99, .invokevirtual 20025, 102), (102, .ireturn, 103), (103, .aload 6, 105), (105, .getfield 10350400, 108), (108, .iload 2, 109), (109, .aload 7, 111), (111, .getfield 10350400, 114), (114, .iload 4, 116), (116, .iload 5, 118), (118, .invokestatic 59501, 121), (121, .iconst 1, 122), (122, .ireturn, 123)]
/-- BoxSpider$Sheet.hasRun(II)Z -/
def pr_90 : List (Nat × Instr × Nat) := [(0, .iload 1, 1), (1, .ifCond .lt 30, 4), (4, .iload 2, 5), (5, .ifCond .lt 30, 8), (8, .iload 1, 9), (9, .aload 0, 10), (10, .getfield 450402, 13), (13, .if_icmp .gt 30, 16), (16, .iload 2, 17), (17, .aload 0, 18), (18, .getfield 450402, 21), (21, .iload 1, 22), (22, .isub, 23), (23, .if_icmp .gt 30, 26), (26, .iconst 1, 27), (27, .goto 31, 30), (30, .iconst 0, 31), (31, .ireturn, 32)]
/-- BoxSpider.write(II)I -/
def pr_91 : List (Nat × Instr × Nat) := [(0, .iload 1, 1), (1, .invokestatic 16018, 4), (4, .ifCond .eq 14, 7), (7, .iload 2, 8), (8, .invokestatic 19023, 11), (11, .ifCond .ne 17, 14), (14, .iconst (-2), 16), (16, .ireturn, 17), (17, .aload 0, 18), (18, .getfield 510905, 21), (21, .iload 2, 22), (22, .aaload, 23), (23, .astore 3, 24), (24, .aload 3, 25), (25, .invokevirtual 1020024, 28), (28, .ifCond .eq 37, 31), (31, .aload 0, 32), (32, .iconst 1, 33), (33, .invokevirtual 20025, 36), (36, .ireturn, 37), (37, .aload 3, 38), (38, .getfield 10370402, 41), (41, .iconst 8, 43), (43, .invokestatic 21502, 46), (46, .istore 4, 48), (48, .iconst 0, 49), (49, .istore 5, 51), (51, .iload 5, 53), (53, .iload 4, 55), (55, .if_icmp .ge 88, 58), (58, .aload 3, 59), (59, .iload 5, 61), (61, .aload 0, 62), (62, .getfield 490903, 65), (65, .getfield 10290702, 68), (68, .aload 0, 69), (69, .getfield 490903, 72), (72, .iload 1, 73), (73, .iload 5, 75), (75, .invokevirtual 1032047, 78), (78, .iaload, 79), (79, .invokevirtual 1059087, 82), (82, .iinc 5 1, 85), (85, .goto 51, 88), (88, .iload 4, 90), (90, .ireturn, 91)]
/-- BoxSpider.count(I)I -/
def pr_92 : List (Nat × Instr × Nat) := [(0, .iload 1, 1), (1, .tableswitch 123 0 8 #[52, 60, 68, 68, 68, 83, 91, 99, 118], 52), (52, .aload 0, 53), (53, .getfield 470901, 56), (56, .invokevirtual 1025038, 59), (59, .ireturn, 60), (60, .aload 0, 61), (61, .getfield 470901, 64), (64, .getfield 10090101, 67), (67, .ireturn, 68), (68, .aload 0, 69), (69, .getfield 460900, 72), (72, .getfield 10020200, 75), (75, .iload 1, 76), (76, .iconst 2, 77), (77, .isub, 78), (78, .invokestatic 12011, 81), (81, .iaload, 82), (82, .ireturn, 83), (83, .aload 0, 84), (84, .getfield 460900, 87), (87, .invokevirtual 1061093, 90), (90, .ireturn, 91), (91, .aload 0, 92), (92, .getfield 460900, 95), (95, .invokevirtual 1062095, 98), (98, .ireturn, 99), (99, .aload 0, 100), (100, .aload 0, 101), (101, .getfield 470901, 104), (104, .invokevirtual 1025038, 107), (107, .invokevirtual 31039, 110), (110, .aload 0, 111), (111, .getfield 520906, 114), (114, .getfield 10110600, 117), (117, .ireturn, 118), (118, .aload 0, 119), (119, .getfield 560910, 122), (122, .ireturn, 123), (123, .iconst (-2), 125), (125, .ireturn, 126)]
/-- BoxSpider$Room.barredEdges()I -/
def pr_93 : List (Nat × Instr × Nat) := [(0, .iconst 0, 1), (1, .istore 1, 2), (2, .iconst 0, 3), (3, .istore 2, 4), (4, .iload 2, 5), (5, .iconst 6, 7), (7, .if_icmp .ge 28, 10), (10, .iload 1, 11), (11, .aload 0, 12), (12, .getfield 50204, 15), (15, .iload 2, 16), (16, .iaload, 17), (17, .invokestatic 70094, 20), (20, .iadd, 21), (21, .istore 1, 22), (22, .iinc 2 1, 25), (25, .goto 4, 28), (28, .iload 1, 29), (29, .iconst 2, 30), (30, .idiv, 31), (31, .ireturn, 32)]
/-- java/lang/Integer.bitCount(I)I -/
def pr_94 : List (Nat × Instr × Nat) := [(0, .iload 0, 1), (1, .iload 0, 2), (2, .iconst 1, 3), (3, .iushr, 4), (4, .ldc 2, 7), (7, .iand, 8), (8, .isub, 9), (9, .istore 0, 10), (10, .iload 0, 11), (11, .ldc 3, 14), (14, .iand, 15), (15, .iload 0, 16), (16, .iconst 2, 17), (17, .iushr, 18), (18, .ldc 3, 21), (21, .iand, 22), (22, .iadd, 23), (23, .istore 0, 24), (24, .iload 0, 25), (25, .iload 0, 26), (26, .iconst 4, 27), (27, .iushr, 28), (28, .iadd, 29), (29, .ldc 4, 32), (32, .iand, 33), (33, .istore 0, 34), (34, .iload 0, 35), (35, .iload 0, 36), (36, .iconst 8, 38), (38, .iushr, 39), (39, .iadd, 40), (40, .istore 0, 41), (41, .iload 0, 42), (42, .iload 0, 43), (43, .iconst 16, 45), (45, .iushr, 46), (46, .iadd, 47), (47, .istore 0, 48), (48, .iload 0, 49), (49, .iconst 63, 51), (51, .iand, 52), (52, .ireturn, 53)]
/-- BoxSpider$Room.unlikePlaces()I -/
def pr_95 : List (Nat × Instr × Nat) := [(0, .iconst 0, 1), (1, .istore 1, 2), (2, .iconst 0, 3), (3, .istore 2, 4), (4, .iload 2, 5), (5, .iconst 8, 7), (7, .if_icmp .ge 27, 10), (10, .aload 0, 11), (11, .iload 2, 12), (12, .invokevirtual 71096, 15), (15, .ifCond .ne 21, 18), (18, .iinc 1 1, 21), (21, .iinc 2 1, 24), (24, .goto 4, 27), (27, .iload 1, 28), (28, .ireturn, 29)]
/-- BoxSpider$Room.hasLikeBefore(I)Z -/
def pr_96 : List (Nat × Instr × Nat) := [(0, .iconst 0, 1), (1, .istore 2, 2), (2, .iload 2, 3), (3, .iload 1, 4), (4, .if_icmp .ge 60, 7), (7, .aload 0, 8), (8, .getfield 20201, 11), (11, .iload 2, 12), (12, .iaload, 13), (13, .aload 0, 14), (14, .getfield 20201, 17), (17, .iload 1, 18), (18, .iaload, 19), (19, .if_icmp .ne 54, 22), (22, .aload 0, 23), (23, .getfield 30202, 26), (26, .iload 2, 27), (27, .iaload, 28), (28, .aload 0, 29), (29, .getfield 30202, 32), (32, .iload 1, 33), (33, .iaload, 34), (34, .if_icmp .ne 54, 37), (37, .aload 0, 38), (38, .getfield 40203, 41), (41, .iload 2, 42), (42, .iaload, 43), (43, .aload 0, 44), (44, .getfield 40203, 47), (47, .iload 1, 48), (48, .iaload, 49), (49, .if_icmp .ne 54, 52), (52, .iconst 1, 53), (53, .ireturn, 54), (54, .iinc 2 1, 57), (57, .goto 2, 60), (60, .iconst 0, 61), (61, .ireturn, 62)]
/-- BoxSpider.digest()J -/
def pr_97 : List (Nat × Instr × Nat) := [(0, .ldc2_w 0, 3), (3, .lstore 1, 4), (4, .iconst 0, 5), (5, .istore 3, 6), (6, .iload 3, 7), (7, .iconst 7, 9), (9, .if_icmp .gt 31, 12), (12, .ldc2_w 1, 15), (15, .lload 1, 16), (16, .lmul, 17), (17, .aload 0, 18), (18, .iload 3, 19), (19, .invokevirtual 73092, 22), (22, .i2l, 23), (23, .ladd, 24), (24, .lstore 1, 25), (25, .iinc 3 1, 28), (28, .goto 6, 31), (31, .ldc2_w 1, 34), (34, .lload 1, 35), (35, .lmul, 36), (36, .aload 0, 37), (37, .invokevirtual 74030, 40), (40, .i2l, 41), (41, .ladd, 42), (42, .lstore 1, 43), (43, .iconst 0, 44), (44, .istore 3, 45), (45, .iload 3, 46), (46, .iconst 8, 48), (48, .if_icmp .ge 201, 51), (51, .iload 3, 52), (52, .iconst 1, 53), (53, .iadd, 54), (54, .iconst 8, 56), (56, .irem, 57), (57, .istore 4, 59), (59, .iconst 0, 60), (60, .istore 5, 62), (62, .iload 5, 64), (64, .iconst 3, 65), (65, .if_icmp .gt 89, 68), (68, .ldc2_w 1, 71), (71, .lload 1, 72), (72, .lmul, 73), (73, .aload 0, 74), (74, .iload 3, 75), (75, .iload 5, 77), (77, .invokevirtual 75019, 80), (80, .i2l, 81), (81, .ladd, 82), (82, .lstore 1, 83), (83, .iinc 5 1, 86), (86, .goto 62, 89), (89, .ldc2_w 1, 92), (92, .lload 1, 93), (93, .lmul, 94), (94, .aload 0, 95), (95, .iload 3, 96), (96, .iload 4, 98), (98, .invokevirtual 76046, 101), (101, .i2l, 102), (102, .ladd, 103), (103, .lstore 1, 104), (104, .ldc2_w 1, 107), (107, .lload 1, 108), (108, .lmul, 109), (109, .aload 0, 110), (110, .iload 3, 111), (111, .iload 4, 113), (113, .invokevirtual 77058, 116), (116, .i2l, 117), (117, .ladd, 118), (118, .lstore 1, 119), (119, .iconst 0, 120), (120, .istore 5, 122), (122, .iload 5, 124), (124, .iconst 2, 125), (125, .if_icmp .gt 151, 128), (128, .ldc2_w 1, 131), (131, .lload 1, 132), (132, .lmul, 133), (133, .aload 0, 134), (134, .iload 3, 135), (135, .iload 4, 137), (137, .iload 5, 139), (139, .invokevirtual 78059, 142), (142, .i2l, 143), (143, .ladd, 144), (144, .lstore 1, 145), (145, .iinc 5 1, 148), (148, .goto 122, 151), (151, .ldc2_w 1, 154), (154, .lload 1, 155), (155, .lmul, 156), (156, .aload 0, 157), (157, .iload 3, 158), (158, .invokevirtual 79061, 161), (161, .i2l, 162), (162, .ladd, 163), (163, .lstore 1, 164), (164, .ldc2_w 1, 167), (167, .lload 1, 168), (168, .lmul, 169), (169, .aload 0, 170), (170, .iload 3, 171), (171, .iconst 200, 174), (174, .invokevirtual 80070, 177), (177, .i2l, 178), (178, .ladd, 179), (179, .lstore 1, 180), (180, .ldc2_w 1, 183), (183, .lload 1, 184), (184, .lmul, 185), (185, .aload 0, 186), (186, .iload 3, 187), (187, .iconst 0, 188), (188, .iconst 0, 189), (189, .invokevirtual 81042, 192), (192, .i2l, 193), (193, .ladd, 194), (194, .lstore 1, 195), (195, .iinc 3 1, 198), (198, .goto 45, 201), (201, .aload 0, 202), (202, .getfield 470901, 205), (205, .invokevirtual 1025038, 208), (208, .istore 3, 209), (209, .iconst 0, 210), (210, .istore 4, 212), (212, .iload 4, 214), (214, .iconst 4, 215), (215, .if_icmp .gt 239, 218), (218, .ldc2_w 1, 221), (221, .lload 1, 222), (222, .lmul, 223), (223, .aload 0, 224), (224, .iload 3, 225), (225, .iload 4, 227), (227, .invokevirtual 82037, 230), (230, .i2l, 231), (231, .ladd, 232), (232, .lstore 1, 233), (233, .iinc 4 1, 236), (236, .goto 212, 239), (239, .ldc2_w 1, 242), (242, .lload 1, 243), (243, .lmul, 244), (244, .aload 0, 245), (245, .invokevirtual 83062, 248), (248, .i2l, 249), (249, .ladd, 250), (250, .lstore 1, 251), (251, .ldc2_w 1, 254), (254, .lload 1, 255), (255, .lmul, 256), (256, .aload 0, 257), (257, .iconst 0, 258), (258, .iconst 1, 259), (259, .invokevirtual 84064, 262), (262, .i2l, 263), (263, .ladd, 264), (264, .lstore 1, 265), (265, .ldc2_w 1, 268), (268, .lload 1, 269), (269, .lmul, 270), (270, .aload 0, 271), (271, .iconst 255, 274), (274, .iconst (-1), 275), (275, .invokevirtual 85065, 278), (278, .i2l, 279), (279, .ladd, 280), (280, .lstore 1, 281), (281, .ldc2_w 1, 284), (284, .lload 1, 285), (285, .lmul, 286), (286, .aload 0, 287), (287, .iconst 255, 290), (290, .iconst (-2), 292), (292, .invokevirtual 85065, 295), (295, .i2l, 296), (296, .ladd, 297), (297, .lstore 1, 298), (298, .ldc2_w 1, 301), (301, .lload 1, 302), (302, .lmul, 303), (303, .aload 0, 304), (304, .iconst 255, 307), (307, .iconst 0, 308), (308, .invokevirtual 85065, 311), (311, .i2l, 312), (312, .ladd, 313), (313, .lstore 1, 314), (314, .ldc2_w 1, 317), (317, .lload 1, 318), (318, .lmul, 319), (319, .aload 0, 320), (320, .iconst 0, 321), (321, .iconst 0, 322), (322, .iconst 1, 323), (323, .iload 3, 324), (324, .invokevirtual 86073, 327), (327, .i2l, 328), (328, .ladd, 329), (329, .lstore 1, 330), (330, .ldc2_w 1, 333), (333, .lload 1, 334), (334, .lmul, 335), (335, .aload 0, 336), (336, .iconst 2, 337), (337, .iconst 1, 338), (338, .iconst 5, 339), (339, .iconst 0, 340), (340, .invokevirtual 87075, 343), (343, .i2l, 344), (344, .ladd, 345), (345, .lstore 1, 346), (346, .ldc2_w 1, 349), (349, .lload 1, 350), (350, .lmul, 351), (351, .aload 0, 352), (352, .iconst 3, 353), (353, .iconst (-2), 355), (355, .iconst 8, 357), (357, .iconst 1, 358), (358, .invokevirtual 87075, 361), (361, .i2l, 362), (362, .ladd, 363), (363, .lstore 1, 364), (364, .ldc2_w 1, 367), (367, .lload 1, 368), (368, .lmul, 369), (369, .aload 0, 370), (370, .iconst 0, 371), (371, .iconst 1, 372), (372, .iconst 100, 374), (374, .iconst 0, 375), (375, .invokevirtual 88078, 378), (378, .i2l, 379), (379, .ladd, 380), (380, .lstore 1, 381), (381, .ldc2_w 1, 384), (384, .lload 1, 385), (385, .lmul, 386), (386, .aload 0, 387), (387, .iconst 0, 388), (388, .iconst 7, 390), (390, .iconst 20, 392), (392, .iconst 300, 395), (395, .invokevirtual 89080, 398), (398, .i2l, 399), (399, .ladd, 400), (400, .lstore 1, 401), (401, .lload 1, 402), (402, .lreturn, 403)]
/-- BoxSpiderModel.<init>()V -/
def pr_98 : List (Nat × Instr × Nat) := [(0, .aload 0, 1), (1, .invokespecial 91500, 4), (4, .aload 0, 5), (5, .iconst 4, 6), (6, .newarray .int, 8), (8, .putfield 571000, 11), (11, .aload 0, 12), (12, .iconst 4, 13), (13, .newarray .int, 15), (15, .putfield 581001, 18), (18, .aload 0, 19), (19, .iconst 240, 22), (22, .newarray .int, 24), (24, .putfield 591002, 27), (27, .aload 0, 28), (28, .iconst 60, 30), (30, .newarray .int, 32), (32, .putfield 601003, 35), (35, .aload 0, 36), (36, .iconst 3, 37), (37, .newarray .int, 39), (39, .putfield 621005, 42), (42, .aload 0, 43), (43, .iconst 24, 45), (45, .newarray .int, 47), (47, .putfield 631006, 50), (50, .aload 0, 51), (51, .iconst 6, 53), (53, .newarray .int, 55), (55, .putfield 641007, 58), (58, .aload 0, 59), (59, .iconst 40, 61), (61, .newarray .int, 63), (63, .putfield 651008, 66), (66, .aload 0, 67), (67, .iconst 560, 70), (70, .newarray .int, 72), (72, .putfield 671010, 75), (75, .aload 0, 76), (76, .iconst 160, 79), (79, .newarray .int, 81), (81, .putfield 681011, 84), (84, .aload 0, 85), (85, .iconst 5, 86), (86, .newarray .int, 88), (88, .putfield 711014, 91), (91, .aload 0, 92), (92, .iconst 5, 93), (93, .newarray .int, 95), (95, .putfield 721015, 98), (98, .aload 0, 99), (99, .iconst 6, 101), (101, .newarray .int, 103), (103, .putfield 731016, 106), (106, .aload 0, 107), (107, .iconst 64, 109), (109, .newarray .int, 111), (111, .putfield 741017, 114), (114, .aload 0, 115), (115, .iconst 8, 117), (117, .newarray .int, 119), (119, .putfield 751018, 122), (122, .aload 0, 123), (123, .iconst 8, 125), (125, .newarray .int, 127), (127, .putfield 761019, 130), (130, .iconst 0, 131), (131, .istore 1, 132), (132, .iload 1, 133), (133, .iconst 4, 134), (134, .if_icmp .ge 150, 137), (137, .aload 0, 138), (138, .getfield 571000, 141), (141, .iload 1, 142), (142, .iconst (-1), 143), (143, .iastore, 144), (144, .iinc 1 1, 147), (147, .goto 132, 150), (150, .aload 0, 151), (151, .getfield 621005, 154), (154, .iconst 0, 155), (155, .iconst 12, 157), (157, .iastore, 158), (158, .aload 0, 159), (159, .getfield 621005, 162), (162, .iconst 1, 163), (163, .iconst 12, 165), (165, .iastore, 166), (166, .aload 0, 167), (167, .getfield 621005, 170), (170, .iconst 2, 171), (171, .iconst 30, 173), (173, .iastore, 174), (174, .return_, 175)]
/-- BoxSpiderModel.sheet(III)I -/
def pr_99 : List (Nat × Instr × Nat) := [(0, .iload 1, 1), (1, .invokestatic 93100, 4), (4, .ifCond .eq 25, 7), (7, .iload 2, 8), (8, .i2l, 9), (9, .lconst 0, 10), (10, .ldc2_w 3, 13), (13, .invokestatic 94101, 16), (16, .ifCond .eq 25, 19), (19, .iload 3, 20), (20, .iconst 60, 22), (22, .if_icmp .le 28, 25), (25, .iconst (-2), 27), (27, .ireturn, 28), (28, .iload 3, 29), (29, .ifCond .ge 38, 32), (32, .aload 0, 33), (33, .iconst 5, 34), (34, .invokevirtual 95102, 37), (37, .ireturn, 38), (38, .aload 0, 39), (39, .getfield 571000, 42), (42, .iload 1, 43), (43, .iload 2, 44), (44, .iastore, 45), (45, .aload 0, 46), (46, .getfield 581001, 49), (49, .iload 1, 50), (50, .iload 3, 51), (51, .iastore, 52), (52, .iconst 0, 53), (53, .istore 4, 55), (55, .iload 4, 57), (57, .iload 3, 58), (58, .if_icmp .ge 80, 61), (61, .aload 0, 62), (62, .getfield 591002, 65), (65, .iconst 60, 67), (67, .iload 1, 68), (68, .imul, 69), (69, .iload 4, 71), (71, .iadd, 72), (72, .iconst 0, 73), (73, .iastore, 74), (74, .iinc 4 1, 77), (77, .goto 55, 80), (80, .iload 3, 81), (81, .ireturn, 82)]
/-- BoxSpiderModel.isSheet(I)Z -/
def pr_100 : List (Nat × Instr × Nat) := [(0, .iload 0, 1), (1, .i2l, 2), (2, .lconst 0, 3), (3, .ldc2_w 2, 6), (6, .invokestatic 94101, 9), (9, .ireturn, 10)]
/-- BoxSpiderModel.in(JJJ)Z -/
def pr_101 : List (Nat × Instr × Nat) := [(0, .lload 0, 1), (1, .lload 2, 2), (2, .lcmp, 3), (3, .ifCond .lt 17, 6), (6, .lload 0, 7), (7, .lload 4, 9), (9, .lcmp, 10), (10, .ifCond .gt 17, 13), (13, .iconst 1, 14), (14, .goto 18, 17), (17, .iconst 0, 18), (18, .ireturn, 19)]
/-- BoxSpiderModel.met(I)I -/
def pr_102 : List (Nat × Instr × Nat) := [(0, .aload 0, 1), (1, .iload 1, 2), (2, .putfield 611004, 5), (5, .iconst (-10), 7), (7, .iload 1, 8), (8, .isub, 9), (9, .ireturn, 10)]
/-- BoxSpiderModel.lose(I)I -/
def pr_103 : List (Nat × Instr × Nat) := [(0, .iload 1, 1), (1, .invokestatic 93100, 4), (4, .ifCond .ne 10, 7), (7, .iconst (-2), 9), (9, .ireturn, 10), (10, .aload 0, 11), (11, .getfield 571000, 14), (14, .iload 1, 15), (15, .iaload, 16), (16, .ifCond .ge 25, 19), (19, .aload 0, 20), (20, .iconst 1, 21), (21, .invokevirtual 95102, 24), (24, .ireturn, 25), (25, .aload 0, 26), (26, .getfield 571000, 29), (29, .iload 1, 30), (30, .iconst (-1), 31), (31, .iastore, 32), (32, .aload 0, 33), (33, .getfield 581001, 36), (36, .iload 1, 37), (37, .iaload, 38), (38, .ireturn, 39)]
/-- BoxSpiderModel.lay(IIII)I -/
def pr_104 : List (Nat × Instr × Nat) := [(0, .iload 1, 1), (1, .invokestatic 93100, 4), (4, .ifCond .eq 19, 7), (7, .iload 2, 8), (8, .i2l, 9), (9, .lconst 0, 10), (10, .ldc2_w 3, 13), (13, .invokestatic 94101, 16), (16, .ifCond .ne 22, 19), (19, .iconst (-2), 21), (21, .ireturn, 22), (22, .aload 0, 23), (23, .iload 1, 24), (24, .iload 2, 25), (25, .iload 3, 26), (26, .invokevirtual 98105, 29), (29, .istore 5, 31), (31, .iload 5, 33), (33, .ifCond .eq 39, 36), (36, .iload 5, 38), (38, .ireturn, 39), (39, .aload 0, 40), (40, .getfield 591002, 43), (43, .iconst 60, 45), (45, .iload 1, 46), (46, .imul, 47), (47, .iload 3, 48), (48, .iadd, 49), (49, .iload 2, 50), (50, .iload 4, 52), (52, .invokestatic 99106, 55), (55, .iastore, 56), (56, .iconst 1, 57), (57, .ireturn, 58)]
/-- BoxSpiderModel.lacks(III)I -/
def pr_105 : List (Nat × Instr × Nat) := [(0, .aload 0, 1), (1, .getfield 571000, 4), (4, .iload 1, 5), (5, .iaload, 6), (6, .ifCond .ge 15, 9), (9, .aload 0, 10), (10, .iconst 1, 11), (11, .invokevirtual 95102, 14), (14, .ireturn, 15), (15, .aload 0, 16), (16, .getfield 571000, 19), (19, .iload 1, 20), (20, .iaload, 21), (21, .iload 2, 22), (22, .if_icmp .eq 31, 25), (25, .aload 0, 26), (26, .iconst 3, 27), (27, .invokevirtual 95102, 30), (30, .ireturn, 31), (31, .iload 3, 32), (32, .i2l, 33), (33, .lconst 0, 34), (34, .aload 0, 35), (35, .getfield 581001, 38), (38, .iload 1, 39), (39, .iaload, 40), (40, .iconst 1, 41), (41, .isub, 42), (42, .i2l, 43), (43, .invokestatic 94101, 46), (46, .ifCond .eq 53, 49), (49, .iconst 0, 50), (50, .goto 58, 53), (53, .aload 0, 54), (54, .iconst 2, 55), (55, .invokevirtual 95102, 58), (58, .ireturn, 59)]
/-- BoxSpiderModel.cut(II)I -/
def pr_106 : List (Nat × Instr × Nat) := [(0, .iload 0, 1), (1, .ifCond .ne 9, 4), (4, .iload 1, 5), (5, .i2b, 6), (6, .goto 20, 9), (9, .iload 0, 10), (10, .iconst 1, 11), (11, .if_icmp .ne 19, 14), (14, .iload 1, 15), (15, .i2s, 16), (16, .goto 20, 19), (19, .iload 1, 20), (20, .ireturn, 21)]
/-- BoxSpiderModel.get(III)I -/
def pr_107 : List (Nat × Instr × Nat) := [(0, .iload 1, 1), (1, .invokestatic 93100, 4), (4, .ifCond .eq 29, 7), (7, .iload 2, 8), (8, .i2l, 9), (9, .lconst 0, 10), (10, .ldc2_w 3, 13), (13, .invokestatic 94101, 16), (16, .ifCond .eq 29, 19), (19, .aload 0, 20), (20, .iload 1, 21), (21, .iload 2, 22), (22, .iload 3, 23), (23, .invokevirtual 98105, 26), (26, .ifCond .eq 32, 29), (29, .ldc 5, 31), (31, .ireturn, 32), (32, .aload 0, 33), (33, .getfield 591002, 36), (36, .iconst 60, 38), (38, .iload 1, 39), (39, .imul, 40), (40, .iload 3, 41), (41, .iadd, 42), (42, .iaload, 43), (43, .ireturn, 44)]
/-- BoxSpiderModel.copy(IIIII)I -/
def pr_108 : List (Nat × Instr × Nat) := [(0, .iload 1, 1), (1, .invokestatic 93100, 4), (4, .ifCond .eq 14, 7), (7, .iload 3, 8), (8, .invokestatic 93100, 11), (11, .ifCond .ne 17, 14), (14, .iconst (-2), 16), (16, .ireturn, 17), (17, .aload 0, 18), (18, .getfield 571000, 21), (21, .iload 1, 22), (22, .iaload, 23), (23, .ifCond .lt 35, 26), (26, .aload 0, 27), (27, .getfield 571000, 30), (30, .iload 3, 31), (31, .iaload, 32), (32, .ifCond .ge 41, 35), (35, .aload 0, 36), (36, .iconst 1, 37), (37, .invokevirtual 95102, 40), (40, .ireturn, 41), (41, .aload 0, 42), (42, .getfield 571000, 45), (45, .iload 1, 46), (46, .iaload, 47), (47, .aload 0, 48), (48, .getfield 571000, 51), (51, .iload 3, 52), (52, .iaload, 53), (53, .if_icmp .eq 62, 56), (56, .aload 0, 57), (57, .iconst 4, 58), (58, .invokevirtual 95102, 61), (61, .ireturn, 62), (62, .iload 2, 63), (63, .ifCond .lt 111, 66), (66, .iload 4, 68), (68, .ifCond .lt 111, 71), (71, .iload 5, 73), (73, .ifCond .lt 111, 76), (76, .iload 2, 77), (77, .i2l, 78), (78, .iload 5, 80), (80, .i2l, 81), (81, .ladd, 82), (82, .aload 0, 83), (83, .getfield 581001, 86), (86, .iload 1, 87), (87, .iaload, 88), (88, .i2l, 89), (89, .lcmp, 90), (90, .ifCond .gt 111, 93), (93, .iload 4, 95), (95, .i2l, 96), (96, .iload 5, 98), (98, .i2l, 99), (99, .ladd, 100), (100, .aload 0, 101), (101, .getfield 581001, 104), (104, .iload 3, 105), (105, .iaload, 106), (106, .i2l, 107), (107, .lcmp, 108), (108, .ifCond .le 117, 111), (111, .aload 0, 112), (112, .iconst 2, 113), (113, .invokevirtual 95102, 116), (116, .ireturn, 117), (117, .iconst 0, 118), (118, .istore 6, 120), (120, .iload 6, 122), (122, .iload 5, 124), (124, .if_icmp .ge 154, 127), (127, .aload 0, 128), (128, .getfield 601003, 131), (131, .iload 6, 133), (133, .aload 0, 134), (134, .getfield 591002, 137), (137, .iconst 60, 139), (139, .iload 1, 140), (140, .imul, 141), (141, .iload 2, 142), (142, .iadd, 143), (143, .iload 6, 145), (145, .iadd, 146), (146, .iaload, 147), (147, .iastore, 148), (148, .iinc 6 1, 151), (151, .goto 120, 154), (154, .iconst 0, 155), (155, .istore 6, 157), (157, .iload 6, 159), (159, .iload 5, 161), (161, .if_icmp .ge 192, 164), (164, .aload 0, 165), (165, .getfield 591002, 168), (168, .iconst 60, 170), (170, .iload 3, 171), (171, .imul, 172), (172, .iload 4, 174), (174, .iadd, 175), (175, .iload 6, 177), (177, .iadd, 178), (178, .aload 0, 179), (179, .getfield 601003, 182), (182, .iload 6, 184), (184, .iaload, 185), (185, .iastore, 186), (186, .iinc 6 1, 189), (189, .goto 157, 192), (192, .iconst 1, 193), (193, .ireturn, 194)]
/-- BoxSpiderModel.side(II)I -/
def pr_109 : List (Nat × Instr × Nat) := [(0, .iload 1, 1), (1, .i2l, 2), (2, .lconst 0, 3), (3, .ldc2_w 3, 6), (6, .invokestatic 94101, 9), (9, .ifCond .eq 24, 12), (12, .iload 2, 13), (13, .i2l, 14), (14, .lconst 1, 15), (15, .ldc2_w 4, 18), (18, .invokestatic 94101, 21), (21, .ifCond .ne 27, 24), (24, .iconst (-2), 26), (26, .ireturn, 27), (27, .aload 0, 28), (28, .getfield 621005, 31), (31, .iload 1, 32), (32, .iaload, 33), (33, .istore 3, 34), (34, .aload 0, 35), (35, .getfield 621005, 38), (38, .iload 1, 39), (39, .iload 2, 40), (40, .iastore, 41), (41, .iconst 0, 42), (42, .istore 4, 44), (44, .iload 4, 46), (46, .iconst 8, 48), (48, .if_icmp .ge 75, 51), (51, .aload 0, 52), (52, .iload 4, 54), (54, .invokevirtual 103110, 57), (57, .ifCond .ne 69, 60), (60, .aload 0, 61), (61, .iload 4, 63), (63, .iconst 0, 64), (64, .iconst 0, 65), (65, .iconst 0, 66), (66, .invokevirtual 107114, 69), (69, .iinc 4 1, 72), (72, .goto 44, 75), (75, .iload 3, 76), (76, .ireturn, 77)]
/-- BoxSpiderModel.isThere(I)Z -/
def pr_110 : List (Nat × Instr × Nat) := [(0, .aload 0, 1), (1, .aload 0, 2), (2, .getfield 631006, 5), (5, .iconst 3, 6), (6, .iload 1, 7), (7, .imul, 8), (8, .iaload, 9), (9, .aload 0, 10), (10, .getfield 631006, 13), (13, .iconst 3, 14), (14, .iload 1, 15), (15, .imul, 16), (16, .iconst 1, 17), (17, .iadd, 18), (18, .iaload, 19), (19, .aload 0, 20), (20, .getfield 631006, 23), (23, .iconst 3, 24), (24, .iload 1, 25), (25, .imul, 26), (26, .iconst 2, 27), (27, .iadd, 28), (28, .iaload, 29), (29, .invokevirtual 104111, 32), (32, .ireturn, 33)]
/-- BoxSpiderModel.isOnBox(III)Z -/
def pr_111 : List (Nat × Instr × Nat) := [(0, .iload 1, 1), (1, .i2l, 2), (2, .lconst 0, 3), (3, .aload 0, 4), (4, .getfield 621005, 7), (7, .iconst 0, 8), (8, .iaload, 9), (9, .i2l, 10), (10, .invokestatic 94101, 13), (13, .ifCond .eq 52, 16), (16, .iload 2, 17), (17, .i2l, 18), (18, .lconst 0, 19), (19, .aload 0, 20), (20, .getfield 621005, 23), (23, .iconst 1, 24), (24, .iaload, 25), (25, .i2l, 26), (26, .invokestatic 94101, 29), (29, .ifCond .eq 52, 32), (32, .iload 3, 33), (33, .i2l, 34), (34, .lconst 0, 35), (35, .aload 0, 36), (36, .getfield 621005, 39), (39, .iconst 2, 40), (40, .iaload, 41), (41, .i2l, 42), (42, .invokestatic 94101, 45), (45, .ifCond .eq 52, 48), (48, .iconst 1, 49), (49, .goto 53, 52), (52, .iconst 0, 53), (53, .istore 4, 55), (55, .iconst 0, 56), (56, .istore 5, 58), (58, .iconst 0, 59), (59, .istore 6, 61), (61, .iload 6, 63), (63, .iconst 6, 65), (65, .if_icmp .ge 98, 68), (68, .iload 5, 70), (70, .ifCond .ne 85, 73), (73, .aload 0, 74), (74, .iload 6, 76), (76, .iload 1, 77), (77, .iload 2, 78), (78, .iload 3, 79), (79, .invokevirtual 105112, 82), (82, .ifCond .eq 89, 85), (85, .iconst 1, 86), (86, .goto 90, 89), (89, .iconst 0, 90), (90, .istore 5, 92), (92, .iinc 6 1, 95), (95, .goto 61, 98), (98, .iload 4, 100), (100, .ifCond .eq 112, 103), (103, .iload 5, 105), (105, .ifCond .eq 112, 108), (108, .iconst 1, 109), (109, .goto 113, 112), (112, .iconst 0, 113), (113, .ireturn, 114)]
/-- BoxSpiderModel.liesOn(IIII)Z -/
def pr_112 : List (Nat × Instr × Nat) := [(0, .iload 1, 1), (1, .invokestatic 106113, 4), (4, .istore 5, 6), (6, .iload 5, 8), (8, .ifCond .ne 15, 11), (11, .iload 2, 12), (12, .goto 27, 15), (15, .iload 5, 17), (17, .iconst 1, 18), (18, .if_icmp .ne 25, 21), (21, .iload 3, 22), (22, .goto 27, 25), (25, .iload 4, 27), (27, .istore 6, 29), (29, .iload 6, 31), (31, .iload 1, 32), (32, .iconst 2, 33), (33, .irem, 34), (34, .ifCond .ne 41, 37), (37, .iconst 0, 38), (38, .goto 48, 41), (41, .aload 0, 42), (42, .getfield 621005, 45), (45, .iload 5, 47), (47, .iaload, 48), (48, .if_icmp .ne 55, 51), (51, .iconst 1, 52), (52, .goto 56, 55), (55, .iconst 0, 56), (56, .ireturn, 57)]
/-- BoxSpiderModel.axisOf(I)I -/
def pr_113 : List (Nat × Instr × Nat) := [(0, .iload 0, 1), (1, .iconst 2, 2), (2, .if_icmp .ge 9, 5), (5, .iconst 2, 6), (6, .goto 19, 9), (9, .iload 0, 10), (10, .iconst 4, 11), (11, .if_icmp .ge 18, 14), (14, .iconst 0, 15), (15, .goto 19, 18), (18, .iconst 1, 19), (19, .ireturn, 20)]
/-- BoxSpiderModel.puts(IIII)V -/
def pr_114 : List (Nat × Instr × Nat) := [(0, .aload 0, 1), (1, .getfield 631006, 4), (4, .iconst 3, 5), (5, .iload 1, 6), (6, .imul, 7), (7, .iload 2, 8), (8, .iastore, 9), (9, .aload 0, 10), (10, .getfield 631006, 13), (13, .iconst 3, 14), (14, .iload 1, 15), (15, .imul, 16), (16, .iconst 1, 17), (17, .iadd, 18), (18, .iload 3, 19), (19, .iastore, 20), (20, .aload 0, 21), (21, .getfield 631006, 24), (24, .iconst 3, 25), (25, .iload 1, 26), (26, .imul, 27), (27, .iconst 2, 28), (28, .iadd, 29), (29, .iload 4, 31), (31, .iastore, 32), (32, .return_, 33)]
/-- BoxSpiderModel.place(IIII)I -/
def pr_115 : List (Nat × Instr × Nat) := [(0, .iload 1, 1), (1, .invokestatic 109116, 4), (4, .ifCond .eq 18, 7), (7, .aload 0, 8), (8, .iload 2, 9), (9, .iload 3, 10), (10, .iload 4, 12), (12, .invokevirtual 104111, 15), (15, .ifCond .ne 21, 18), (18, .iconst (-2), 20), (20, .ireturn, 21), (21, .aload 0, 22), (22, .iload 1, 23), (23, .iload 2, 24), (24, .iload 3, 25), (25, .iload 4, 27), (27, .invokevirtual 107114, 30), (30, .iconst 1, 31), (31, .ireturn, 32)]
/-- BoxSpiderModel.isPlace(I)Z -/
def pr_116 : List (Nat × Instr × Nat) := [(0, .iload 0, 1), (1, .i2l, 2), (2, .lconst 0, 3), (3, .ldc2_w 5, 6), (6, .invokestatic 94101, 9), (9, .ireturn, 10)]
/-- BoxSpiderModel.at(II)I -/
def pr_117 : List (Nat × Instr × Nat) := [(0, .iload 1, 1), (1, .invokestatic 109116, 4), (4, .ifCond .eq 28, 7), (7, .iload 2, 8), (8, .i2l, 9), (9, .lconst 0, 10), (10, .ldc2_w 2, 13), (13, .invokestatic 94101, 16), (16, .ifCond .eq 28, 19), (19, .aload 0, 20), (20, .iload 1, 21), (21, .iload 2, 22), (22, .invokevirtual 111118, 25), (25, .goto 30, 28), (28, .iconst (-2), 30), (30, .ireturn, 31)]
/-- BoxSpiderModel.atOf(II)I -/
def pr_118 : List (Nat × Instr × Nat) := [(0, .iload 2, 1), (1, .iconst 3, 2), (2, .if_icmp .ge 18, 5), (5, .aload 0, 6), (6, .getfield 631006, 9), (9, .iconst 3, 10), (10, .iload 1, 11), (11, .imul, 12), (12, .iload 2, 13), (13, .iadd, 14), (14, .iaload, 15), (15, .goto 23, 18), (18, .aload 0, 19), (19, .iload 1, 20), (20, .invokevirtual 112119, 23), (23, .ireturn, 24)]
/-- BoxSpiderModel.facesOf(I)I -/
def pr_119 : List (Nat × Instr × Nat) := [(0, .iconst 0, 1), (1, .istore 2, 2), (2, .iconst 0, 3), (3, .istore 3, 4), (4, .iload 3, 5), (5, .iconst 6, 7), (7, .if_icmp .ge 35, 10), (10, .iload 2, 11), (11, .aload 0, 12), (12, .iload 3, 13), (13, .iload 1, 14), (14, .invokevirtual 113120, 17), (17, .ifCond .eq 26, 20), (20, .iconst 1, 21), (21, .iload 3, 22), (22, .ishl, 23), (23, .goto 27, 26), (26, .iconst 0, 27), (27, .ior, 28), (28, .istore 2, 29), (29, .iinc 3 1, 32), (32, .goto 4, 35), (35, .iload 2, 36), (36, .ireturn, 37)]
/-- BoxSpiderModel.isOn(II)Z -/
def pr_120 : List (Nat × Instr × Nat) := [(0, .aload 0, 1), (1, .iload 1, 2), (2, .aload 0, 3), (3, .getfield 631006, 6), (6, .iconst 3, 7), (7, .iload 2, 8), (8, .imul, 9), (9, .iaload, 10), (10, .aload 0, 11), (11, .getfield 631006, 14), (14, .iconst 3, 15), (15, .iload 2, 16), (16, .imul, 17), (17, .iconst 1, 18), (18, .iadd, 19), (19, .iaload, 20), (20, .aload 0, 21), (21, .getfield 631006, 24), (24, .iconst 3, 25), (25, .iload 2, 26), (26, .imul, 27), (27, .iconst 2, 28), (28, .iadd, 29), (29, .iaload, 30), (30, .invokevirtual 105112, 33), (33, .ireturn, 34)]
/-- BoxSpiderModel.read(I)I -/
def pr_121 : List (Nat × Instr × Nat) := [(0, .iload 1, 1), (1, .invokestatic 93100, 4), (4, .ifCond .ne 10, 7), (7, .iconst (-2), 9), (9, .ireturn, 10), (10, .aload 0, 11), (11, .getfield 571000, 14), (14, .iload 1, 15), (15, .iaload, 16), (16, .ifCond .ge 25, 19), (19, .aload 0, 20), (20, .iconst 1, 21), (21, .invokevirtual 95102, 24), (24, .ireturn, 25), (25, .iconst 0, 26), (26, .istore 2, 27), (27, .iconst 1, 28), (28, .istore 3, 29), (29, .iload 3, 30), (30, .ifCond .eq 118, 33), (33, .iload 2, 34), (34, .iconst 8, 36), (36, .if_icmp .ge 118, 39), (39, .iconst 3, 40), (40, .iload 2, 41), (41, .imul, 42), (42, .iconst 3, 43), (43, .iadd, 44), (44, .aload 0, 45), (45, .getfield 581001, 48), (48, .iload 1, 49), (49, .iaload, 50), (50, .if_icmp .gt 118, 53), (53, .iconst 60, 55), (55, .iload 1, 56), (56, .imul, 57), (57, .iconst 3, 58), (58, .iload 2, 59), (59, .imul, 60), (60, .iadd, 61), (61, .istore 4, 63), (63, .aload 0, 64), (64, .iload 2, 65), (65, .aload 0, 66), (66, .getfield 591002, 69), (69, .iload 4, 71), (71, .iaload, 72), (72, .aload 0, 73), (73, .getfield 591002, 76), (76, .iload 4, 78), (78, .iconst 1, 79), (79, .iadd, 80), (80, .iaload, 81), (81, .aload 0, 82), (82, .getfield 591002, 85), (85, .iload 4, 87), (87, .iconst 2, 88), (88, .iadd, 89), (89, .iaload, 90), (90, .invokevirtual 115115, 93), (93, .iconst 1, 94), (94, .if_icmp .ne 101, 97), (97, .iconst 1, 98), (98, .goto 102, 101), (101, .iconst 0, 102), (102, .istore 3, 103), (103, .iload 2, 104), (104, .iload 3, 105), (105, .ifCond .eq 112, 108), (108, .iconst 1, 109), (109, .goto 113, 112), (112, .iconst 0, 113), (113, .iadd, 114), (114, .istore 2, 115), (115, .goto 29, 118), (118, .iload 2, 119), (119, .ireturn, 120)]
/-- BoxSpiderModel.bar(III)I -/
def pr_122 : List (Nat × Instr × Nat) := [(0, .iload 1, 1), (1, .invokestatic 117123, 4), (4, .ifCond .eq 30, 7), (7, .iload 2, 8), (8, .invokestatic 117123, 11), (11, .ifCond .eq 30, 14), (14, .iload 1, 15), (15, .iconst 2, 16), (16, .idiv, 17), (17, .iload 2, 18), (18, .iconst 2, 19), (19, .idiv, 20), (20, .if_icmp .eq 30, 23), (23, .iload 3, 24), (24, .invokestatic 118124, 27), (27, .ifCond .ne 33, 30), (30, .iconst (-2), 32), (32, .ireturn, 33), (33, .aload 0, 34), (34, .getfield 641007, 37), (37, .iload 1, 38), (38, .iaload, 39), (39, .iload 2, 40), (40, .ishr, 41), (41, .iconst 1, 42), (42, .iand, 43), (43, .istore 4, 45), (45, .aload 0, 46), (46, .getfield 641007, 49), (49, .iload 1, 50), (50, .aload 0, 51), (51, .getfield 641007, 54), (54, .iload 1, 55), (55, .iaload, 56), (56, .iconst 1, 57), (57, .iload 2, 58), (58, .ishl, 59), (59, .iconst (-1), 60), (60, .ixor, 61), (61, .iand, 62), (62, .iload 3, 63), (63, .iload 2, 64), (64, .ishl, 65), (65, .ior, 66), (66, .iastore, 67), (67, .aload 0, 68), (68, .getfield 641007, 71), (71, .iload 2, 72), (72, .aload 0, 73), (73, .getfield 641007, 76), (76, .iload 2, 77), (77, .iaload, 78), (78, .iconst 1, 79), (79, .iload 1, 80), (80, .ishl, 81), (81, .iconst (-1), 82), (82, .ixor, 83), (83, .iand, 84), (84, .iload 3, 85), (85, .iload 1, 86), (86, .ishl, 87), (87, .ior, 88), (88, .iastore, 89), (89, .iload 4, 91), (91, .ireturn, 92)]
/-- BoxSpiderModel.isFace(I)Z -/
def pr_123 : List (Nat × Instr × Nat) := [(0, .iload 0, 1), (1, .i2l, 2), (2, .lconst 0, 3), (3, .ldc2_w 6, 6), (6, .invokestatic 94101, 9), (9, .ireturn, 10)]
/-- BoxSpiderModel.isTwo(I)Z -/
def pr_124 : List (Nat × Instr × Nat) := [(0, .iload 0, 1), (1, .i2l, 2), (2, .lconst 0, 3), (3, .lconst 1, 4), (4, .invokestatic 94101, 7), (7, .ireturn, 8)]
/-- BoxSpiderModel.type(I)I -/
def pr_125 : List (Nat × Instr × Nat) := [(0, .iload 1, 1), (1, .i2l, 2), (2, .lconst 0, 3), (3, .ldc2_w 7, 6), (6, .invokestatic 94101, 9), (9, .ifCond .ne 15, 12), (12, .iconst (-2), 14), (14, .ireturn, 15), (15, .aload 0, 16), (16, .getfield 661009, 19), (19, .iconst 40, 21), (21, .if_icmp .ne 27, 24), (24, .iconst (-4), 26), (26, .ireturn, 27), (27, .aload 0, 28), (28, .getfield 651008, 31), (31, .aload 0, 32), (32, .getfield 661009, 35), (35, .iload 1, 36), (36, .iastore, 37), (37, .aload 0, 38), (38, .dup, 39), (39, .getfield 661009, 42), (42, .iconst 1, 43), (43, .iadd, 44), (44, .putfield 661009, 47), (47, .aload 0, 48), (48, .getfield 661009, 51), (51, .ireturn, 52)]
/-- BoxSpiderModel.undo()I -/
def pr_126 : List (Nat × Instr × Nat) := [(0, .aload 0, 1), (1, .getfield 661009, 4), (4, .ifCond .ne 10, 7), (7, .iconst (-3), 9), (9, .ireturn, 10), (10, .aload 0, 11), (11, .dup, 12), (12, .getfield 661009, 15), (15, .iconst 1, 16), (16, .isub, 17), (17, .putfield 661009, 20), (20, .aload 0, 21), (21, .getfield 661009, 24), (24, .ireturn, 25)]
/-- BoxSpiderModel.wipe()I -/
def pr_127 : List (Nat × Instr × Nat) := [(0, .aload 0, 1), (1, .getfield 661009, 4), (4, .istore 1, 5), (5, .aload 0, 6), (6, .iconst 0, 7), (7, .putfield 661009, 10), (10, .iload 1, 11), (11, .ireturn, 12)]
/-- BoxSpiderModel.fault()I -/
def pr_128 : List (Nat × Instr × Nat) := [(0, .iconst 0, 1), (1, .istore 1, 2), (2, .iload 1, 3), (3, .aload 0, 4), (4, .getfield 661009, 7), (7, .if_icmp .ge 37, 10), (10, .iload 1, 11), (11, .iconst 20, 13), (13, .if_icmp .eq 29, 16), (16, .aload 0, 17), (17, .getfield 651008, 20), (20, .iload 1, 21), (21, .iaload, 22), (22, .invokestatic 123129, 25), (25, .iconst (-1), 26), (26, .if_icmp .ne 31, 29), (29, .iload 1, 30), (30, .ireturn, 31), (31, .iinc 1 1, 34), (34, .goto 2, 37), (37, .iconst (-1), 38), (38, .ireturn, 39)]
/-- BoxSpiderModel.rollOf(I)I -/
def pr_129 : List (Nat × Instr × Nat) := [(0, .iload 0, 1), (1, .iconst 101, 3), (3, .if_icmp .ne 10, 6), (6, .iconst 0, 7), (7, .goto 41, 10), (10, .iload 0, 11), (11, .iconst 119, 13), (13, .if_icmp .ne 20, 16), (16, .iconst 1, 17), (17, .goto 41, 20), (20, .iload 0, 21), (21, .iconst 110, 23), (23, .if_icmp .ne 30, 26), (26, .iconst 2, 27), (27, .goto 41, 30), (30, .iload 0, 31), (31, .iconst 115, 33), (33, .if_icmp .ne 40, 36), (36, .iconst 3, 37), (37, .goto 41, 40), (40, .iconst (-1), 41), (41, .ireturn, 42)]
/-- BoxSpiderModel.laidOut(II)I -/
def pr_130 : List (Nat × Instr × Nat) := [(0, .iload 1, 1), (1, .i2l, 2), (2, .lconst 0, 3), (3, .aload 0, 4), (4, .invokevirtual 125131, 7), (7, .i2l, 8), (8, .invokestatic 94101, 11), (11, .ifCond .eq 35, 14), (14, .iload 2, 15), (15, .i2l, 16), (16, .lconst 0, 17), (17, .ldc2_w 8, 20), (20, .invokestatic 94101, 23), (23, .ifCond .eq 35, 26), (26, .aload 0, 27), (27, .iload 1, 28), (28, .iload 2, 29), (29, .invokevirtual 127132, 32), (32, .goto 38, 35), (35, .iconst (-10002), 38), (38, .ireturn, 39)]
/-- BoxSpiderModel.rolls()I -/
def pr_131 : List (Nat × Instr × Nat) := [(0, .aload 0, 1), (1, .invokevirtual 126128, 4), (4, .iconst (-1), 5), (5, .if_icmp .ne 15, 8), (8, .aload 0, 9), (9, .getfield 661009, 12), (12, .goto 16, 15), (15, .iconst 0, 16), (16, .ireturn, 17)]
/-- BoxSpiderModel.laidOf(II)I -/
def pr_132 : List (Nat × Instr × Nat) := [(0, .aload 0, 1), (1, .iload 1, 2), (2, .invokevirtual 128133, 5), (5, .iload 2, 6), (6, .ifCond .ne 17, 9), (9, .aload 0, 10), (10, .iload 1, 11), (11, .invokevirtual 133138, 14), (14, .goto 43, 17), (17, .iload 2, 18), (18, .iconst 3, 19), (19, .if_icmp .ge 33, 22), (22, .aload 0, 23), (23, .iload 1, 24), (24, .iload 2, 25), (25, .iconst 1, 26), (26, .isub, 27), (27, .invokevirtual 132137, 30), (30, .goto 43, 33), (33, .aload 0, 34), (34, .iload 1, 35), (35, .iconst 3, 36), (36, .iload 2, 37), (37, .iconst 3, 38), (38, .isub, 39), (39, .imul, 40), (40, .invokevirtual 131136, 43), (43, .ireturn, 44)]
/-- BoxSpiderModel.goesTo(I)V -/
def pr_133 : List (Nat × Instr × Nat) := [(0, .aload 0, 1), (1, .invokevirtual 129134, 4), (4, .iconst 0, 5), (5, .istore 2, 6), (6, .iload 2, 7), (7, .iload 1, 8), (8, .if_icmp .ge 31, 11), (11, .aload 0, 12), (12, .iload 2, 13), (13, .aload 0, 14), (14, .getfield 651008, 17), (17, .iload 2, 18), (18, .iaload, 19), (19, .invokestatic 123129, 22), (22, .invokevirtual 130135, 25), (25, .iinc 2 1, 28), (28, .goto 6, 31), (31, .return_, 32)]
/-- BoxSpiderModel.begins()V -/
def pr_134 : List (Nat × Instr × Nat) := [(0, .iconst 0, 1), (1, .istore 1, 2), (2, .iload 1, 3), (3, .iconst 14, 5), (5, .if_icmp .ge 40, 8), (8, .aload 0, 9), (9, .getfield 671010, 12), (12, .iload 1, 13), (13, .iload 1, 14), (14, .ifCond .eq 28, 17), (17, .iload 1, 18), (18, .iconst 4, 19), (19, .if_icmp .eq 28, 22), (22, .iload 1, 23), (23, .iconst 8, 25), (25, .if_icmp .ne 32, 28), (28, .iconst 1, 29), (29, .goto 33, 32), (32, .iconst 0, 33), (33, .iastore, 34), (34, .iinc 1 1, 37), (37, .goto 2, 40), (40, .return_, 41)]
/-- BoxSpiderModel.turns(II)V -/
def pr_135 : List (Nat × Instr × Nat) := [(0, .iconst 14, 2), (2, .iload 1, 3), (3, .imul, 4), (4, .istore 3, 5), (5, .iload 3, 6), (6, .iconst 14, 8), (8, .iadd, 9), (9, .istore 4, 11), (11, .iload 2, 12), (12, .iconst 2, 13), (13, .if_icmp .ge 20, 16), (16, .iconst 0, 17), (17, .goto 21, 20), (20, .iconst 3, 21), (21, .istore 5, 23), (23, .iconst 3, 24), (24, .iload 5, 26), (26, .isub, 27), (27, .istore 6, 29), (29, .iload 2, 30), (30, .iconst 2, 31), (31, .irem, 32), (32, .ifCond .ne 39, 35), (35, .iconst 1, 36), (36, .goto 40, 39), (39, .iconst 0, 40), (40, .istore 7, 42), (42, .aload 0, 43), (43, .iload 1, 44), (44, .iload 5, 46), (46, .invokevirtual 131136, 49), (49, .istore 8, 51), (51, .aload 0, 52), (52, .iload 1, 53), (53, .iconst 6, 55), (55, .invokevirtual 131136, 58), (58, .istore 9, 60), (60, .iconst 0, 61), (61, .istore 10, 63), (63, .iload 10, 65), (65, .iconst 3, 66), (66, .if_icmp .ge 224, 69), (69, .aload 0, 70), (70, .getfield 671010, 73), (73, .iload 3, 74), (74, .iload 5, 76), (76, .iadd, 77), (77, .iload 10, 79), (79, .iadd, 80), (80, .iaload, 81), (81, .istore 11, 83), (83, .aload 0, 84), (84, .getfield 671010, 87), (87, .iload 3, 88), (88, .iconst 6, 90), (90, .iadd, 91), (91, .iload 10, 93), (93, .iadd, 94), (94, .iaload, 95), (95, .istore 12, 97), (97, .aload 0, 98), (98, .getfield 671010, 101), (101, .iload 4, 103), (103, .iload 5, 105), (105, .iadd, 106), (106, .iload 10, 108), (108, .iadd, 109), (109, .iload 7, 111), (111, .ifCond .eq 119, 114), (114, .iload 12, 116), (116, .goto 122, 119), (119, .iload 12, 121), (121, .ineg, 122), (122, .iastore, 123), (123, .aload 0, 124), (124, .getfield 671010, 127), (127, .iload 4, 129), (129, .iload 6, 131), (131, .iadd, 132), (132, .iload 10, 134), (134, .iadd, 135), (135, .aload 0, 136), (136, .getfield 671010, 139), (139, .iload 3, 140), (140, .iload 6, 142), (142, .iadd, 143), (143, .iload 10, 145), (145, .iadd, 146), (146, .iaload, 147), (147, .iastore, 148), (148, .aload 0, 149), (149, .getfield 671010, 152), (152, .iload 4, 154), (154, .iconst 6, 156), (156, .iadd, 157), (157, .iload 10, 159), (159, .iadd, 160), (160, .iload 7, 162), (162, .ifCond .eq 171, 165), (165, .iload 11, 167), (167, .ineg, 168), (168, .goto 173, 171), (171, .iload 11, 173), (173, .iastore, 174), (174, .aload 0, 175), (175, .getfield 671010, 178), (178, .iload 4, 180), (180, .iconst 9, 182), (182, .iadd, 183), (183, .iload 10, 185), (185, .iadd, 186), (186, .aload 0, 187), (187, .getfield 671010, 190), (190, .iload 3, 191), (191, .iconst 9, 193), (193, .iadd, 194), (194, .iload 10, 196), (196, .iadd, 197), (197, .iaload, 198), (198, .iload 7, 200), (200, .ifCond .eq 211, 203), (203, .iload 8, 205), (205, .iload 11, 207), (207, .imul, 208), (208, .goto 216, 211), (211, .iload 9, 213), (213, .iload 12, 215), (215, .imul, 216), (216, .iadd, 217), (217, .iastore, 218), (218, .iinc 10 1, 221), (221, .goto 63, 224), (224, .iload 5, 226), (226, .iconst 3, 227), (227, .idiv, 228), (228, .istore 10, 230), (230, .aload 0, 231), (231, .getfield 671010, 234), (234, .iload 4, 236), (236, .iconst 12, 238), (238, .iadd, 239), (239, .iload 10, 241), (241, .iadd, 242), (242, .aload 0, 243), (243, .iload 1, 244), (244, .iload 10, 246), (246, .invokevirtual 132137, 249), (249, .iload 7, 251), (251, .ifCond .eq 259, 254), (254, .iload 8, 256), (256, .goto 262, 259), (259, .iload 9, 261), (261, .ineg, 262), (262, .iadd, 263), (263, .iastore, 264), (264, .aload 0, 265), (265, .getfield 671010, 268), (268, .iload 4, 270), (270, .iconst 13, 272), (272, .iadd, 273), (273, .iload 10, 275), (275, .isub, 276), (276, .aload 0, 277), (277, .iload 1, 278), (278, .iconst 1, 279), (279, .iload 10, 281), (281, .isub, 282), (282, .invokevirtual 132137, 285), (285, .iastore, 286), (286, .aload 0, 287), (287, .getfield 681011, 290), (290, .iconst 4, 291), (291, .iload 1, 292), (292, .imul, 293), (293, .iconst 1, 294), (294, .iload 10, 296), (296, .isub, 297), (297, .iastore, 298), (298, .aload 0, 299), (299, .getfield 681011, 302), (302, .iconst 4, 303), (303, .iload 1, 304), (304, .imul, 305), (305, .iconst 1, 306), (306, .iadd, 307), (307, .aload 0, 308), (308, .iload 1, 309), (309, .iload 10, 311), (311, .invokevirtual 132137, 314), (314, .iload 7, 316), (316, .ifCond .eq 324, 319), (319, .iload 8, 321), (321, .goto 325, 324), (324, .iconst 0, 325), (325, .iadd, 326), (326, .iastore, 327), (327, .aload 0, 328), (328, .getfield 681011, 331), (331, .iconst 4, 332), (332, .iload 1, 333), (333, .imul, 334), (334, .iconst 2, 335), (335, .iadd, 336), (336, .aload 0, 337), (337, .iload 1, 338), (338, .iconst 1, 339), (339, .iload 10, 341), (341, .isub, 342), (342, .invokevirtual 132137, 345), (345, .iastore, 346), (346, .aload 0, 347), (347, .getfield 681011, 350), (350, .iconst 4, 351), (351, .iload 1, 352), (352, .imul, 353), (353, .iconst 3, 354), (354, .iadd, 355), (355, .aload 0, 356), (356, .iload 1, 357), (357, .iconst 1, 358), (358, .iload 10, 360), (360, .isub, 361), (361, .invokevirtual 132137, 364), (364, .aload 0, 365), (365, .iload 1, 366), (366, .iload 6, 368), (368, .invokevirtual 131136, 371), (371, .iadd, 372), (372, .iastore, 373), (373, .return_, 374)]
/-- BoxSpiderModel.far(II)I -/
def pr_136 : List (Nat × Instr × Nat) := [(0, .iconst 14, 2), (2, .iload 1, 3), (3, .imul, 4), (4, .iload 2, 5), (5, .iadd, 6), (6, .istore 3, 7), (7, .aload 0, 8), (8, .getfield 671010, 11), (11, .iload 3, 12), (12, .iaload, 13), (13, .ifCond .eq 25, 16), (16, .aload 0, 17), (17, .getfield 621005, 20), (20, .iconst 0, 21), (21, .iaload, 22), (22, .goto 51, 25), (25, .aload 0, 26), (26, .getfield 671010, 29), (29, .iload 3, 30), (30, .iconst 1, 31), (31, .iadd, 32), (32, .iaload, 33), (33, .ifCond .eq 45, 36), (36, .aload 0, 37), (37, .getfield 621005, 40), (40, .iconst 1, 41), (41, .iaload, 42), (42, .goto 51, 45), (45, .aload 0, 46), (46, .getfield 621005, 49), (49, .iconst 2, 50), (50, .iaload, 51), (51, .ireturn, 52)]
/-- BoxSpiderModel.southWest(II)I -/
def pr_137 : List (Nat × Instr × Nat) := [(0, .aload 0, 1), (1, .getfield 671010, 4), (4, .iconst 14, 6), (6, .iload 1, 7), (7, .imul, 8), (8, .iconst 12, 10), (10, .iadd, 11), (11, .iload 2, 12), (12, .iadd, 13), (13, .iaload, 14), (14, .ireturn, 15)]
/-- BoxSpiderModel.faceAt(I)I -/
def pr_138 : List (Nat × Instr × Nat) := [(0, .iconst 14, 2), (2, .iload 1, 3), (3, .imul, 4), (4, .iconst 6, 6), (6, .iadd, 7), (7, .istore 2, 8), (8, .aload 0, 9), (9, .getfield 671010, 12), (12, .iload 2, 13), (13, .iaload, 14), (14, .ifCond .eq 21, 17), (17, .iconst 0, 18), (18, .goto 37, 21), (21, .aload 0, 22), (22, .getfield 671010, 25), (25, .iload 2, 26), (26, .iconst 1, 27), (27, .iadd, 28), (28, .iaload, 29), (29, .ifCond .eq 36, 32), (32, .iconst 1, 33), (33, .goto 37, 36), (36, .iconst 2, 37), (37, .istore 3, 38), (38, .iload 3, 39), (39, .iconst 2, 40), (40, .if_icmp .ne 47, 43), (43, .iconst 0, 44), (44, .goto 56, 47), (47, .iload 3, 48), (48, .ifCond .ne 55, 51), (51, .iconst 2, 52), (52, .goto 56, 55), (55, .iconst 4, 56), (56, .istore 4, 58), (58, .aload 0, 59), (59, .getfield 671010, 62), (62, .iload 2, 63), (63, .iload 3, 64), (64, .iadd, 65), (65, .iaload, 66), (66, .ifCond .le 74, 69), (69, .iload 4, 71), (71, .goto 78, 74), (74, .iload 4, 76), (76, .iconst 1, 77), (77, .iadd, 78), (78, .ireturn, 79)]
/-- BoxSpiderModel.lies(III)I -/
def pr_139 : List (Nat × Instr × Nat) := [(0, .iload 1, 1), (1, .invokestatic 109116, 4), (4, .ifCond .eq 38, 7), (7, .iload 2, 8), (8, .i2l, 9), (9, .lconst 0, 10), (10, .aload 0, 11), (11, .invokevirtual 125131, 14), (14, .i2l, 15), (15, .invokestatic 94101, 18), (18, .ifCond .eq 38, 21), (21, .iload 3, 22), (22, .invokestatic 118124, 25), (25, .ifCond .eq 38, 28), (28, .aload 0, 29), (29, .iload 1, 30), (30, .iload 2, 31), (31, .iload 3, 32), (32, .invokevirtual 135140, 35), (35, .goto 41, 38), (38, .iconst (-10002), 41), (41, .ireturn, 42)]
/-- BoxSpiderModel.liesOf(III)I -/
def pr_140 : List (Nat × Instr × Nat) := [(0, .aload 0, 1), (1, .iload 2, 2), (2, .invokevirtual 128133, 5), (5, .aload 0, 6), (6, .aload 0, 7), (7, .iload 2, 8), (8, .invokevirtual 133138, 11), (11, .iload 1, 12), (12, .invokevirtual 113120, 15), (15, .ifCond .eq 28, 18), (18, .aload 0, 19), (19, .iload 1, 20), (20, .iload 2, 21), (21, .iload 3, 22), (22, .invokevirtual 136141, 25), (25, .goto 31, 28), (28, .iconst (-10003), 31), (31, .ireturn, 32)]
/-- BoxSpiderModel.liesAt(III)I -/
def pr_141 : List (Nat × Instr × Nat) := [(0, .aload 0, 1), (1, .iload 1, 2), (2, .iload 2, 3), (3, .iload 3, 4), (4, .iconst 3, 5), (5, .iload 3, 6), (6, .imul, 7), (7, .invokevirtual 137142, 10), (10, .ireturn, 11)]
/-- BoxSpiderModel.imageOf(IIII)I -/
def pr_142 : List (Nat × Instr × Nat) := [(0, .iconst 14, 2), (2, .iload 2, 3), (3, .imul, 4), (4, .istore 5, 6), (6, .aload 0, 7), (7, .iload 2, 8), (8, .iload 3, 9), (9, .invokevirtual 132137, 12), (12, .istore 6, 14), (14, .iconst 0, 15), (15, .istore 7, 17), (17, .iload 7, 19), (19, .iconst 3, 20), (20, .if_icmp .ge 73, 23), (23, .iload 6, 25), (25, .aload 0, 26), (26, .getfield 631006, 29), (29, .iconst 3, 30), (30, .iload 1, 31), (31, .imul, 32), (32, .iload 7, 34), (34, .iadd, 35), (35, .iaload, 36), (36, .aload 0, 37), (37, .getfield 671010, 40), (40, .iload 5, 42), (42, .iconst 9, 44), (44, .iadd, 45), (45, .iload 7, 47), (47, .iadd, 48), (48, .iaload, 49), (49, .isub, 50), (50, .aload 0, 51), (51, .getfield 671010, 54), (54, .iload 5, 56), (56, .iload 4, 58), (58, .iadd, 59), (59, .iload 7, 61), (61, .iadd, 62), (62, .iaload, 63), (63, .imul, 64), (64, .iadd, 65), (65, .istore 6, 67), (67, .iinc 7 1, 70), (70, .goto 17, 73), (73, .iload 6, 75), (75, .ireturn, 76)]
/-- BoxSpiderModel.shortest(II)I -/
def pr_143 : List (Nat × Instr × Nat) := [(0, .iload 1, 1), (1, .invokestatic 109116, 4), (4, .ifCond .eq 23, 7), (7, .iload 2, 8), (8, .invokestatic 109116, 11), (11, .ifCond .eq 23, 14), (14, .aload 0, 15), (15, .iload 1, 16), (16, .iload 2, 17), (17, .invokevirtual 139144, 20), (20, .goto 25, 23), (23, .iconst (-2), 25), (25, .ireturn, 26)]
/-- BoxSpiderModel.shortestOf(II)I -/
def pr_144 : List (Nat × Instr × Nat) := [(0, .aload 0, 1), (1, .iconst (-1), 2), (2, .putfield 691012, 5), (5, .aload 0, 6), (6, .iconst 0, 7), (7, .putfield 701013, 10), (10, .iconst 0, 11), (11, .istore 3, 12), (12, .iload 3, 13), (13, .iconst 5, 14), (14, .if_icmp .ge 30, 17), (17, .aload 0, 18), (18, .getfield 711014, 21), (21, .iload 3, 22), (22, .iconst (-1), 23), (23, .iastore, 24), (24, .iinc 3 1, 27), (27, .goto 12, 30), (30, .iconst 0, 31), (31, .istore 3, 32), (32, .iload 3, 33), (33, .iconst 6, 35), (35, .if_icmp .ge 60, 38), (38, .aload 0, 39), (39, .iload 3, 40), (40, .iload 1, 41), (41, .invokevirtual 113120, 44), (44, .ifCond .eq 54, 47), (47, .aload 0, 48), (48, .iload 3, 49), (49, .iload 1, 50), (50, .iload 2, 51), (51, .invokevirtual 140145, 54), (54, .iinc 3 1, 57), (57, .goto 32, 60), (60, .aload 0, 61), (61, .getfield 691012, 64), (64, .ireturn, 65)]
/-- BoxSpiderModel.findFrom(III)V -/
def pr_145 : List (Nat × Instr × Nat) := [(0, .aload 0, 1), (1, .iload 1, 2), (2, .invokevirtual 141146, 5), (5, .iconst 0, 6), (6, .istore 4, 8), (8, .aload 0, 9), (9, .getfield 721015, 12), (12, .iconst 0, 13), (13, .iload 1, 14), (14, .iastore, 15), (15, .aload 0, 16), (16, .getfield 731016, 19), (19, .iconst 0, 20), (20, .iconst (-1), 21), (21, .iastore, 22), (22, .aload 0, 23), (23, .iload 1, 24), (24, .iload 3, 25), (25, .invokevirtual 113120, 28), (28, .ifCond .eq 44, 31), (31, .aload 0, 32), (32, .aload 0, 33), (33, .iload 2, 34), (34, .iconst 0, 35), (35, .iload 3, 36), (36, .iconst 0, 37), (37, .invokevirtual 142147, 40), (40, .iconst 1, 41), (41, .invokevirtual 147152, 44), (44, .iload 4, 46), (46, .ifCond .lt 166, 49), (49, .aload 0, 50), (50, .getfield 731016, 53), (53, .iload 4, 55), (55, .dup2, 56), (56, .iaload, 57), (57, .iconst 1, 58), (58, .iadd, 59), (59, .iastore, 60), (60, .aload 0, 61), (61, .getfield 731016, 64), (64, .iload 4, 66), (66, .iaload, 67), (67, .iconst 4, 68), (68, .if_icmp .eq 77, 71), (71, .iload 4, 73), (73, .iconst 4, 74), (74, .if_icmp .ne 83, 77), (77, .iinc 4 (-1), 80), (80, .goto 44, 83), (83, .aload 0, 84), (84, .iload 4, 86), (86, .aload 0, 87), (87, .getfield 731016, 90), (90, .iload 4, 92), (92, .iaload, 93), (93, .invokevirtual 130135, 96), (96, .aload 0, 97), (97, .iload 4, 99), (99, .iconst 1, 100), (100, .iadd, 101), (101, .invokevirtual 149154, 104), (104, .ifCond .eq 44, 107), (107, .iinc 4 1, 110), (110, .aload 0, 111), (111, .getfield 721015, 114), (114, .iload 4, 116), (116, .aload 0, 117), (117, .iload 4, 119), (119, .invokevirtual 133138, 122), (122, .iastore, 123), (123, .aload 0, 124), (124, .getfield 731016, 127), (127, .iload 4, 129), (129, .iconst (-1), 130), (130, .iastore, 131), (131, .aload 0, 132), (132, .aload 0, 133), (133, .getfield 721015, 136), (136, .iload 4, 138), (138, .iaload, 139), (139, .iload 3, 140), (140, .invokevirtual 113120, 143), (143, .ifCond .eq 44, 146), (146, .aload 0, 147), (147, .aload 0, 148), (148, .iload 2, 149), (149, .iconst 0, 150), (150, .iload 3, 151), (151, .iload 4, 153), (153, .invokevirtual 142147, 156), (156, .iload 4, 158), (158, .iconst 1, 159), (159, .iadd, 160), (160, .invokevirtual 147152, 163), (163, .goto 44, 166), (166, .return_, 167)]
/-- BoxSpiderModel.standsOn(I)V -/
def pr_146 : List (Nat × Instr × Nat) := [(0, .aload 0, 1), (1, .invokevirtual 129134, 4), (4, .iload 1, 5), (5, .iconst 3, 6), (6, .if_icmp .eq 14, 9), (9, .iload 1, 10), (10, .iconst 1, 11), (11, .if_icmp .ne 18, 14), (14, .iconst 0, 15), (15, .goto 37, 18), (18, .iload 1, 19), (19, .iconst 2, 20), (20, .if_icmp .ne 27, 23), (23, .iconst 1, 24), (24, .goto 37, 27), (27, .iload 1, 28), (28, .iconst 5, 29), (29, .if_icmp .ne 36, 32), (32, .iconst 2, 33), (33, .goto 37, 36), (36, .iconst 3, 37), (37, .istore 2, 38), (38, .iload 1, 39), (39, .ifCond .ne 46, 42), (42, .iconst 0, 43), (43, .goto 56, 46), (46, .iload 1, 47), (47, .iconst 1, 48), (48, .if_icmp .ne 55, 51), (51, .iconst 2, 52), (52, .goto 56, 55), (55, .iconst 1, 56), (56, .istore 3, 57), (57, .iconst 0, 58), (58, .istore 4, 60), (60, .iload 4, 62), (62, .iload 3, 63), (63, .if_icmp .ge 111, 66), (66, .aload 0, 67), (67, .iconst 0, 68), (68, .iload 2, 69), (69, .invokevirtual 130135, 72), (72, .iconst 0, 73), (73, .istore 5, 75), (75, .iload 5, 77), (77, .iconst 14, 79), (79, .if_icmp .ge 105, 82), (82, .aload 0, 83), (83, .getfield 671010, 86), (86, .iload 5, 88), (88, .aload 0, 89), (89, .getfield 671010, 92), (92, .iconst 14, 94), (94, .iload 5, 96), (96, .iadd, 97), (97, .iaload, 98), (98, .iastore, 99), (99, .iinc 5 1, 102), (102, .goto 75, 105), (105, .iinc 4 1, 108), (108, .goto 60, 111), (111, .return_, 112)]
/-- BoxSpiderModel.lineOf(IIII)I -/
def pr_147 : List (Nat × Instr × Nat) := [(0, .aload 0, 1), (1, .iload 1, 2), (2, .iload 2, 3), (3, .iconst 0, 4), (4, .invokevirtual 136141, 7), (7, .istore 5, 9), (9, .aload 0, 10), (10, .iload 1, 11), (11, .iload 2, 12), (12, .iconst 1, 13), (13, .invokevirtual 136141, 16), (16, .istore 6, 18), (18, .aload 0, 19), (19, .iload 3, 20), (20, .iload 4, 22), (22, .iconst 0, 23), (23, .invokevirtual 136141, 26), (26, .istore 7, 28), (28, .aload 0, 29), (29, .iload 3, 30), (30, .iload 4, 32), (32, .iconst 1, 33), (33, .invokevirtual 136141, 36), (36, .istore 8, 38), (38, .iconst 1, 39), (39, .istore 9, 41), (41, .iload 2, 42), (42, .istore 10, 44), (44, .iload 10, 46), (46, .iload 4, 48), (48, .if_icmp .ge 115, 51), (51, .aload 0, 52), (52, .getfield 641007, 55), (55, .aload 0, 56), (56, .iload 10, 58), (58, .invokevirtual 133138, 61), (61, .iaload, 62), (62, .aload 0, 63), (63, .iload 10, 65), (65, .iconst 1, 66), (66, .iadd, 67), (67, .invokevirtual 133138, 70), (70, .invokestatic 143148, 73), (73, .istore 11, 75), (75, .iload 9, 77), (77, .ifCond .eq 106, 80), (80, .iload 11, 82), (82, .ifCond .ne 106, 85), (85, .aload 0, 86), (86, .iload 10, 88), (88, .iload 5, 90), (90, .iload 6, 92), (92, .iload 7, 94), (94, .iload 8, 96), (96, .invokevirtual 144149, 99), (99, .ifCond .eq 106, 102), (102, .iconst 1, 103), (103, .goto 107, 106), (106, .iconst 0, 107), (107, .istore 9, 109), (109, .iinc 10 1, 112), (112, .goto 44, 115), (115, .iload 9, 117), (117, .ifCond .eq 146, 120), (120, .iload 7, 122), (122, .iload 5, 124), (124, .isub, 125), (125, .iload 7, 127), (127, .iload 5, 129), (129, .isub, 130), (130, .imul, 131), (131, .iload 8, 133), (133, .iload 6, 135), (135, .isub, 136), (136, .iload 8, 138), (138, .iload 6, 140), (140, .isub, 141), (141, .imul, 142), (142, .iadd, 143), (143, .goto 147, 146), (146, .iconst (-1), 147), (147, .ireturn, 148)]
/-- BoxSpiderModel.isIn(II)Z -/
def pr_148 : List (Nat × Instr × Nat) := [(0, .iload 0, 1), (1, .iload 1, 2), (2, .ishr, 3), (3, .iconst 1, 4), (4, .iand, 5), (5, .iconst 1, 6), (6, .if_icmp .ne 13, 9), (9, .iconst 1, 10), (10, .goto 14, 13), (13, .iconst 0, 14), (14, .ireturn, 15)]
/-- BoxSpiderModel.meets(IIIII)Z -/
def pr_149 : List (Nat × Instr × Nat) := [(0, .aload 0, 1), (1, .getfield 681011, 4), (4, .iconst 4, 5), (5, .iload 1, 6), (6, .imul, 7), (7, .iaload, 8), (8, .iconst 1, 9), (9, .if_icmp .ne 16, 12), (12, .iconst 1, 13), (13, .goto 17, 16), (16, .iconst 0, 17), (17, .istore 6, 19), (19, .aload 0, 20), (20, .getfield 681011, 23), (23, .iconst 4, 24), (24, .iload 1, 25), (25, .imul, 26), (26, .iconst 1, 27), (27, .iadd, 28), (28, .iaload, 29), (29, .istore 7, 31), (31, .aload 0, 32), (32, .getfield 681011, 35), (35, .iconst 4, 36), (36, .iload 1, 37), (37, .imul, 38), (38, .iconst 2, 39), (39, .iadd, 40), (40, .iaload, 41), (41, .istore 8, 43), (43, .aload 0, 44), (44, .getfield 681011, 47), (47, .iconst 4, 48), (48, .iload 1, 49), (49, .imul, 50), (50, .iconst 3, 51), (51, .iadd, 52), (52, .iaload, 53), (53, .istore 9, 55), (55, .iload 6, 57), (57, .ifCond .eq 64, 60), (60, .iload 2, 61), (61, .goto 65, 64), (64, .iload 3, 65), (65, .istore 10, 67), (67, .iload 6, 69), (69, .ifCond .eq 77, 72), (72, .iload 4, 74), (74, .goto 79, 77), (77, .iload 5, 79), (79, .istore 11, 81), (81, .iload 6, 83), (83, .ifCond .eq 90, 86), (86, .iload 3, 87), (87, .goto 91, 90), (90, .iload 2, 91), (91, .istore 12, 93), (93, .iload 6, 95), (95, .ifCond .eq 103, 98), (98, .iload 5, 100), (100, .goto 105, 103), (103, .iload 4, 105), (105, .istore 13, 107), (107, .iload 10, 109), (109, .iload 11, 111), (111, .if_icmp .ne 154, 114), (114, .iload 10, 116), (116, .iload 7, 118), (118, .if_icmp .ne 152, 121), (121, .iload 12, 123), (123, .iload 13, 125), (125, .invokestatic 145150, 128), (128, .iload 8, 130), (130, .invokestatic 146151, 133), (133, .iload 12, 135), (135, .iload 13, 137), (137, .invokestatic 146151, 140), (140, .iload 9, 142), (142, .invokestatic 145150, 145), (145, .if_icmp .gt 152, 148), (148, .iconst 1, 149), (149, .goto 153, 152), (152, .iconst 0, 153), (153, .ireturn, 154), (154, .iload 7, 156), (156, .i2l, 157), (157, .iload 10, 159), (159, .iload 11, 161), (161, .invokestatic 145150, 164), (164, .i2l, 165), (165, .iload 10, 167), (167, .iload 11, 169), (169, .invokestatic 146151, 172), (172, .i2l, 173), (173, .invokestatic 94101, 176), (176, .ifCond .ne 181, 179), (179, .iconst 0, 180), (180, .ireturn, 181), (181, .iload 11, 183), (183, .iload 10, 185), (185, .if_icmp .le 192, 188), (188, .iconst 1, 189), (189, .goto 193, 192), (192, .iconst (-1), 193), (193, .istore 14, 195), (195, .iload 14, 197), (197, .iload 11, 199), (199, .iload 10, 201), (201, .isub, 202), (202, .imul, 203), (203, .istore 15, 205), (205, .iload 12, 207), (207, .iload 15, 209), (209, .imul, 210), (210, .iload 14, 212), (212, .iload 13, 214), (214, .iload 12, 216), (216, .isub, 217), (217, .imul, 218), (218, .iload 7, 220), (220, .iload 10, 222), (222, .isub, 223), (223, .imul, 224), (224, .iadd, 225), (225, .istore 16, 227), (227, .iload 16, 229), (229, .i2l, 230), (230, .iload 8, 232), (232, .iload 15, 234), (234, .imul, 235), (235, .i2l, 236), (236, .iload 9, 238), (238, .iload 15, 240), (240, .imul, 241), (241, .i2l, 242), (242, .invokestatic 94101, 245), (245, .ireturn, 246)]
/-- BoxSpiderModel.lesser(II)I -/
def pr_150 : List (Nat × Instr × Nat) := [(0, .iload 0, 1), (1, .iload 1, 2), (2, .if_icmp .ge 9, 5), (5, .iload 0, 6), (6, .goto 10, 9), (9, .iload 1, 10), (10, .ireturn, 11)]
/-- BoxSpiderModel.greater(II)I -/
def pr_151 : List (Nat × Instr × Nat) := [(0, .iload 0, 1), (1, .iload 1, 2), (2, .if_icmp .le 9, 5), (5, .iload 0, 6), (6, .goto 10, 9), (9, .iload 1, 10), (10, .ireturn, 11)]
/-- BoxSpiderModel.keeps(II)V -/
def pr_152 : List (Nat × Instr × Nat) := [(0, .iload 1, 1), (1, .iconst (-1), 2), (2, .if_icmp .eq 21, 5), (5, .aload 0, 6), (6, .getfield 691012, 9), (9, .iconst (-1), 10), (10, .if_icmp .eq 22, 13), (13, .iload 1, 14), (14, .aload 0, 15), (15, .getfield 691012, 18), (18, .if_icmp .le 22, 21), (21, .return_, 22), (22, .aload 0, 23), (23, .getfield 691012, 26), (26, .iconst (-1), 27), (27, .if_icmp .eq 38, 30), (30, .iload 1, 31), (31, .aload 0, 32), (32, .getfield 691012, 35), (35, .if_icmp .ge 42, 38), (38, .iconst 1, 39), (39, .goto 43, 42), (42, .iconst 0, 43), (43, .istore 3, 44), (44, .aload 0, 45), (45, .iload 3, 46), (46, .ifCond .eq 53, 49), (49, .iconst 1, 50), (50, .goto 59, 53), (53, .aload 0, 54), (54, .getfield 701013, 57), (57, .iconst 1, 58), (58, .iadd, 59), (59, .putfield 701013, 62), (62, .iload 3, 63), (63, .ifCond .ne 74, 66), (66, .aload 0, 67), (67, .iload 2, 68), (68, .invokevirtual 148153, 71), (71, .ifCond .eq 113, 74), (74, .iconst 0, 75), (75, .istore 4, 77), (77, .iload 4, 79), (79, .iconst 5, 80), (80, .if_icmp .ge 113, 83), (83, .aload 0, 84), (84, .getfield 711014, 87), (87, .iload 4, 89), (89, .iload 4, 91), (91, .iload 2, 92), (92, .if_icmp .ge 105, 95), (95, .aload 0, 96), (96, .getfield 721015, 99), (99, .iload 4, 101), (101, .iaload, 102), (102, .goto 106, 105), (105, .iconst (-1), 106), (106, .iastore, 107), (107, .iinc 4 1, 110), (110, .goto 77, 113), (113, .aload 0, 114), (114, .iload 1, 115), (115, .putfield 691012, 118), (118, .return_, 119)]
/-- BoxSpiderModel.isAhead(I)Z -/
def pr_153 : List (Nat × Instr × Nat) := [(0, .iconst 0, 1), (1, .istore 2, 2), (2, .iload 2, 3), (3, .iconst 5, 4), (4, .if_icmp .ge 23, 7), (7, .aload 0, 8), (8, .getfield 711014, 11), (11, .iload 2, 12), (12, .iaload, 13), (13, .iconst (-1), 14), (14, .if_icmp .eq 23, 17), (17, .iinc 2 1, 20), (20, .goto 2, 23), (23, .iload 1, 24), (24, .iload 2, 25), (25, .if_icmp .eq 39, 28), (28, .iload 1, 29), (29, .iload 2, 30), (30, .if_icmp .ge 37, 33), (33, .iconst 1, 34), (34, .goto 38, 37), (37, .iconst 0, 38), (38, .ireturn, 39), (39, .iconst 0, 40), (40, .istore 3, 41), (41, .iload 3, 42), (42, .iload 1, 43), (43, .iconst 1, 44), (44, .isub, 45), (45, .if_icmp .ge 69, 48), (48, .aload 0, 49), (49, .getfield 721015, 52), (52, .iload 3, 53), (53, .iaload, 54), (54, .aload 0, 55), (55, .getfield 711014, 58), (58, .iload 3, 59), (59, .iaload, 60), (60, .if_icmp .ne 69, 63), (63, .iinc 3 1, 66), (66, .goto 41, 69), (69, .aload 0, 70), (70, .getfield 721015, 73), (73, .iload 3, 74), (74, .iaload, 75), (75, .aload 0, 76), (76, .getfield 711014, 79), (79, .iload 3, 80), (80, .iaload, 81), (81, .if_icmp .ge 88, 84), (84, .iconst 1, 85), (85, .goto 89, 88), (88, .iconst 0, 89), (89, .ireturn, 90)]
/-- BoxSpiderModel.isNew(I)Z -/
def pr_154 : List (Nat × Instr × Nat) := [(0, .iconst 1, 1), (1, .istore 2, 2), (2, .iconst 0, 3), (3, .istore 3, 4), (4, .iload 3, 5), (5, .iload 1, 6), (6, .if_icmp .ge 39, 9), (9, .iload 2, 10), (10, .ifCond .eq 31, 13), (13, .aload 0, 14), (14, .getfield 721015, 17), (17, .iload 3, 18), (18, .iaload, 19), (19, .aload 0, 20), (20, .iload 1, 21), (21, .invokevirtual 133138, 24), (24, .if_icmp .eq 31, 27), (27, .iconst 1, 28), (28, .goto 32, 31), (31, .iconst 0, 32), (32, .istore 2, 33), (33, .iinc 3 1, 36), (36, .goto 4, 39), (39, .iload 2, 40), (40, .ireturn, 41)]
/-- BoxSpiderModel.ways(II)I -/
def pr_155 : List (Nat × Instr × Nat) := [(0, .iload 1, 1), (1, .invokestatic 109116, 4), (4, .ifCond .eq 23, 7), (7, .iload 2, 8), (8, .invokestatic 109116, 11), (11, .ifCond .eq 23, 14), (14, .aload 0, 15), (15, .iload 1, 16), (16, .iload 2, 17), (17, .invokevirtual 151156, 20), (20, .goto 25, 23), (23, .iconst (-2), 25), (25, .ireturn, 26)]
/-- BoxSpiderModel.waysOf(II)I -/
def pr_156 : List (Nat × Instr × Nat) := [(0, .aload 0, 1), (1, .iload 1, 2), (2, .iload 2, 3), (3, .invokevirtual 139144, 6), (6, .pop, 7), (7, .aload 0, 8), (8, .getfield 701013, 11), (11, .ireturn, 12)]
/-- BoxSpiderModel.face(III)I -/
def pr_157 : List (Nat × Instr × Nat) := [(0, .iload 1, 1), (1, .invokestatic 109116, 4), (4, .ifCond .eq 36, 7), (7, .iload 2, 8), (8, .invokestatic 109116, 11), (11, .ifCond .eq 36, 14), (14, .iload 3, 15), (15, .i2l, 16), (16, .lconst 0, 17), (17, .ldc2_w 8, 20), (20, .invokestatic 94101, 23), (23, .ifCond .eq 36, 26), (26, .aload 0, 27), (27, .iload 1, 28), (28, .iload 2, 29), (29, .iload 3, 30), (30, .invokevirtual 153158, 33), (33, .goto 38, 36), (36, .iconst (-2), 38), (38, .ireturn, 39)]
/-- BoxSpiderModel.faceOf(III)I -/
def pr_158 : List (Nat × Instr × Nat) := [(0, .aload 0, 1), (1, .iload 1, 2), (2, .iload 2, 3), (3, .invokevirtual 139144, 6), (6, .pop, 7), (7, .aload 0, 8), (8, .getfield 711014, 11), (11, .iload 3, 12), (12, .iaload, 13), (13, .ireturn, 14)]
/-- BoxSpiderModel.farthest(I)I -/
def pr_159 : List (Nat × Instr × Nat) := [(0, .iload 1, 1), (1, .invokestatic 109116, 4), (4, .ifCond .eq 15, 7), (7, .aload 0, 8), (8, .iload 1, 9), (9, .invokevirtual 155160, 12), (12, .goto 17, 15), (15, .iconst (-2), 17), (17, .ireturn, 18)]
/-- BoxSpiderModel.farthestOf(I)I -/
def pr_160 : List (Nat × Instr × Nat) := [(0, .iload 1, 1), (1, .istore 2, 2), (2, .iconst (-1), 3), (3, .istore 3, 4), (4, .iconst 0, 5), (5, .istore 4, 7), (7, .iload 4, 9), (9, .iconst 8, 11), (11, .if_icmp .ge 49, 14), (14, .aload 0, 15), (15, .iload 1, 16), (16, .iload 4, 18), (18, .invokevirtual 139144, 21), (21, .istore 5, 23), (23, .iload 5, 25), (25, .iload 3, 26), (26, .if_icmp .le 34, 29), (29, .iload 4, 31), (31, .goto 35, 34), (34, .iload 2, 35), (35, .istore 2, 36), (36, .iload 5, 38), (38, .iload 3, 39), (39, .invokestatic 146151, 42), (42, .istore 3, 43), (43, .iinc 4 1, 46), (46, .goto 7, 49), (49, .iload 2, 50), (50, .ireturn, 51)]
/-- BoxSpiderModel.sit()I -/
def pr_161 : List (Nat × Instr × Nat) := [(0, .aload 0, 1), (1, .invokevirtual 157162, 4), (4, .ireturn, 5)]
/-- BoxSpiderModel.sitNow()I -/
def pr_162 : List (Nat × Instr × Nat) := [(0, .iconst (-1), 1), (1, .istore 1, 2), (2, .iconst 0, 3), (3, .istore 2, 4), (4, .iconst 0, 5), (5, .istore 3, 6), (6, .iload 3, 7), (7, .iconst 8, 9), (9, .if_icmp .ge 97, 12), (12, .iconst 0, 13), (13, .istore 4, 15), (15, .iconst 1, 16), (16, .istore 5, 18), (18, .iconst 0, 19), (19, .istore 6, 21), (21, .iload 6, 23), (23, .iconst 8, 25), (25, .if_icmp .ge 70, 28), (28, .aload 0, 29), (29, .iload 3, 30), (30, .iload 6, 32), (32, .invokevirtual 139144, 35), (35, .istore 7, 37), (37, .iload 5, 39), (39, .ifCond .eq 52, 42), (42, .iload 7, 44), (44, .iconst (-1), 45), (45, .if_icmp .eq 52, 48), (48, .iconst 1, 49), (49, .goto 53, 52), (52, .iconst 0, 53), (53, .istore 5, 55), (55, .iload 7, 57), (57, .iload 4, 59), (59, .invokestatic 146151, 62), (62, .istore 4, 64), (64, .iinc 6 1, 67), (67, .goto 21, 70), (70, .iload 5, 72), (72, .ifCond .eq 91, 75), (75, .iload 1, 76), (76, .iconst (-1), 77), (77, .if_icmp .eq 86, 80), (80, .iload 4, 82), (82, .iload 2, 83), (83, .if_icmp .ge 91, 86), (86, .iload 3, 87), (87, .istore 1, 88), (88, .iload 4, 90), (90, .istore 2, 91), (91, .iinc 3 1, 94), (94, .goto 6, 97), (97, .iload 1, 98), (98, .ireturn, 99)]
/-- BoxSpiderModel.nearer(II)I -/
def pr_163 : List (Nat × Instr × Nat) := [(0, .iload 1, 1), (1, .invokestatic 109116, 4), (4, .ifCond .eq 28, 7), (7, .iload 2, 8), (8, .invokestatic 109116, 11), (11, .ifCond .eq 28, 14), (14, .iload 1, 15), (15, .iload 2, 16), (16, .if_icmp .eq 28, 19), (19, .aload 0, 20), (20, .iload 1, 21), (21, .iload 2, 22), (22, .invokevirtual 159164, 25), (25, .goto 30, 28), (28, .iconst (-2), 30), (30, .ireturn, 31)]
/-- BoxSpiderModel.nearerOf(II)I -/
def pr_164 : List (Nat × Instr × Nat) := [(0, .iconst 0, 1), (1, .istore 3, 2), (2, .iconst 0, 3), (3, .istore 4, 5), (5, .iload 4, 7), (7, .iconst 8, 9), (9, .if_icmp .ge 66, 12), (12, .aload 0, 13), (13, .iload 1, 14), (14, .iload 4, 16), (16, .invokevirtual 139144, 19), (19, .istore 5, 21), (21, .aload 0, 22), (22, .iload 2, 23), (23, .iload 4, 25), (25, .invokevirtual 139144, 28), (28, .istore 6, 30), (30, .iload 3, 31), (31, .iload 5, 33), (33, .iconst (-1), 34), (34, .if_icmp .eq 57, 37), (37, .iload 6, 39), (39, .iconst (-1), 40), (40, .if_icmp .eq 50, 43), (43, .iload 5, 45), (45, .iload 6, 47), (47, .if_icmp .ge 57, 50), (50, .iconst 1, 51), (51, .iload 4, 53), (53, .ishl, 54), (54, .goto 58, 57), (57, .iconst 0, 58), (58, .ior, 59), (59, .istore 3, 60), (60, .iinc 4 1, 63), (63, .goto 5, 66), (66, .iload 3, 67), (67, .ireturn, 68)]
/-- BoxSpiderModel.wires(II)I -/
def pr_165 : List (Nat × Instr × Nat) := [(0, .iload 1, 1), (1, .i2l, 2), (2, .lconst 0, 3), (3, .ldc2_w 7, 6), (6, .invokestatic 94101, 9), (9, .ifCond .eq 27, 12), (12, .iload 2, 13), (13, .iconst (-2), 15), (15, .if_icmp .lt 27, 18), (18, .aload 0, 19), (19, .iload 1, 20), (20, .iload 2, 21), (21, .invokevirtual 161166, 24), (24, .goto 29, 27), (27, .iconst (-2), 29), (29, .ireturn, 30)]
/-- BoxSpiderModel.wiresOf(II)I -/
def pr_166 : List (Nat × Instr × Nat) := [(0, .iconst 0, 1), (1, .istore 3, 2), (2, .iload 3, 3), (3, .iconst 8, 5), (5, .if_icmp .ge 79, 8), (8, .aload 0, 9), (9, .getfield 751018, 12), (12, .iload 3, 13), (13, .iload 3, 14), (14, .iastore, 15), (15, .iload 3, 16), (16, .iconst 1, 17), (17, .iadd, 18), (18, .istore 4, 20), (20, .iload 4, 22), (22, .iconst 8, 24), (24, .if_icmp .ge 73, 27), (27, .aload 0, 28), (28, .getfield 741017, 31), (31, .iconst 8, 33), (33, .iload 3, 34), (34, .imul, 35), (35, .iload 4, 37), (37, .iadd, 38), (38, .iload 1, 39), (39, .iload 3, 40), (40, .invokestatic 143148, 43), (43, .ifCond .eq 65, 46), (46, .iload 1, 47), (47, .iload 4, 49), (49, .invokestatic 143148, 52), (52, .ifCond .eq 65, 55), (55, .aload 0, 56), (56, .iload 3, 57), (57, .iload 4, 59), (59, .invokevirtual 139144, 62), (62, .goto 66, 65), (65, .iconst (-1), 66), (66, .iastore, 67), (67, .iinc 4 1, 70), (70, .goto 20, 73), (73, .iinc 3 1, 76), (76, .goto 2, 79), (79, .iconst 0, 80), (80, .istore 3, 81), (81, .iconst 0, 82), (82, .istore 4, 84), (84, .iconst (-1), 85), (85, .istore 5, 87), (87, .iconst 1, 88), (88, .istore 6, 90), (90, .iload 6, 92), (92, .ifCond .eq 282, 95), (95, .iconst (-1), 96), (96, .istore 7, 98), (98, .iconst 0, 99), (99, .istore 8, 101), (101, .iload 8, 103), (103, .iconst 8, 105), (105, .if_icmp .ge 216, 108), (108, .iload 8, 110), (110, .iconst 1, 111), (111, .iadd, 112), (112, .istore 9, 114), (114, .iload 9, 116), (116, .iconst 8, 118), (118, .if_icmp .ge 210, 121), (121, .aload 0, 122), (122, .getfield 741017, 125), (125, .iconst 8, 127), (127, .iload 8, 129), (129, .imul, 130), (130, .iload 9, 132), (132, .iadd, 133), (133, .iaload, 134), (134, .istore 10, 136), (136, .iload 10, 138), (138, .iconst (-1), 139), (139, .if_icmp .eq 163, 142), (142, .aload 0, 143), (143, .getfield 751018, 146), (146, .iload 8, 148), (148, .iaload, 149), (149, .aload 0, 150), (150, .getfield 751018, 153), (153, .iload 9, 155), (155, .iaload, 156), (156, .if_icmp .eq 163, 159), (159, .iconst 1, 160), (160, .goto 164, 163), (163, .iconst 0, 164), (164, .istore 11, 166), (166, .iload 11, 168), (168, .ifCond .eq 200, 171), (171, .iload 7, 173), (173, .iconst (-1), 174), (174, .if_icmp .eq 189, 177), (177, .iload 10, 179), (179, .aload 0, 180), (180, .getfield 741017, 183), (183, .iload 7, 185), (185, .iaload, 186), (186, .if_icmp .ge 200, 189), (189, .iconst 8, 191), (191, .iload 8, 193), (193, .imul, 194), (194, .iload 9, 196), (196, .iadd, 197), (197, .goto 202, 200), (200, .iload 7, 202), (202, .istore 7, 204), (204, .iinc 9 1, 207), (207, .goto 114, 210), (210, .iinc 8 1, 213), (213, .goto 101, 216), (216, .iload 7, 218), (218, .iconst (-1), 219), (219, .if_icmp .eq 226, 222), (222, .iconst 1, 223), (223, .goto 227, 226), (226, .iconst 0, 227), (227, .istore 6, 229), (229, .iload 6, 231), (231, .ifCond .eq 279, 234), (234, .aload 0, 235), (235, .iload 7, 237), (237, .iconst 8, 239), (239, .idiv, 240), (240, .iload 7, 242), (242, .iconst 8, 244), (244, .irem, 245), (245, .invokevirtual 162167, 248), (248, .iload 4, 250), (250, .aload 0, 251), (251, .getfield 741017, 254), (254, .iload 7, 256), (256, .iaload, 257), (257, .invokestatic 146151, 260), (260, .istore 4, 262), (262, .iload 3, 263), (263, .iload 2, 264), (264, .if_icmp .ne 272, 267), (267, .iload 7, 269), (269, .goto 274, 272), (272, .iload 5, 274), (274, .istore 5, 276), (276, .iinc 3 1, 279), (279, .goto 90, 282), (282, .iload 2, 283), (283, .iconst (-1), 284), (284, .if_icmp .ne 291, 287), (287, .iload 3, 288), (288, .goto 304, 291), (291, .iload 2, 292), (292, .iconst (-2), 294), (294, .if_icmp .ne 302, 297), (297, .iload 4, 299), (299, .goto 304, 302), (302, .iload 5, 304), (304, .ireturn, 305)]
/-- BoxSpiderModel.joins(II)V -/
def pr_167 : List (Nat × Instr × Nat) := [(0, .aload 0, 1), (1, .getfield 751018, 4), (4, .iload 2, 5), (5, .iaload, 6), (6, .istore 3, 7), (7, .iconst 0, 8), (8, .istore 4, 10), (10, .iload 4, 12), (12, .iconst 8, 14), (14, .if_icmp .ge 57, 17), (17, .aload 0, 18), (18, .getfield 751018, 21), (21, .iload 4, 23), (23, .aload 0, 24), (24, .getfield 751018, 27), (27, .iload 4, 29), (29, .iaload, 30), (30, .iload 3, 31), (31, .if_icmp .ne 43, 34), (34, .aload 0, 35), (35, .getfield 751018, 38), (38, .iload 1, 39), (39, .iaload, 40), (40, .goto 50, 43), (43, .aload 0, 44), (44, .getfield 751018, 47), (47, .iload 4, 49), (49, .iaload, 50), (50, .iastore, 51), (51, .iinc 4 1, 54), (54, .goto 10, 57), (57, .return_, 58)]
/-- BoxSpiderModel.within(II)I -/
def pr_168 : List (Nat × Instr × Nat) := [(0, .iload 1, 1), (1, .invokestatic 109116, 4), (4, .ifCond .eq 28, 7), (7, .iload 2, 8), (8, .i2l, 9), (9, .lconst 0, 10), (10, .ldc2_w 9, 13), (13, .invokestatic 94101, 16), (16, .ifCond .eq 28, 19), (19, .aload 0, 20), (20, .iload 1, 21), (21, .iload 2, 22), (22, .invokevirtual 164169, 25), (25, .goto 30, 28), (28, .iconst (-2), 30), (30, .ireturn, 31)]
/-- BoxSpiderModel.withinOf(II)I -/
def pr_169 : List (Nat × Instr × Nat) := [(0, .iconst 0, 1), (1, .istore 3, 2), (2, .iconst 0, 3), (3, .istore 4, 5), (5, .iload 4, 7), (7, .iconst 8, 9), (9, .if_icmp .ge 43, 12), (12, .iload 3, 13), (13, .aload 0, 14), (14, .iload 1, 15), (15, .iload 4, 17), (17, .invokevirtual 139144, 20), (20, .i2l, 21), (21, .lconst 0, 22), (22, .iload 2, 23), (23, .i2l, 24), (24, .invokestatic 94101, 27), (27, .ifCond .eq 34, 30), (30, .iconst 1, 31), (31, .goto 35, 34), (34, .iconst 0, 35), (35, .iadd, 36), (36, .istore 3, 37), (37, .iinc 4 1, 40), (40, .goto 5, 43), (43, .iload 3, 44), (44, .ireturn, 45)]
/-- BoxSpiderModel.told(IIII)I -/
def pr_170 : List (Nat × Instr × Nat) := [(0, .iload 1, 1), (1, .invokestatic 109116, 4), (4, .ifCond .eq 53, 7), (7, .iload 3, 8), (8, .invokestatic 109116, 11), (11, .ifCond .eq 53, 14), (14, .iload 4, 16), (16, .i2l, 17), (17, .lconst 0, 18), (18, .aload 0, 19), (19, .invokevirtual 125131, 22), (22, .i2l, 23), (23, .invokestatic 94101, 26), (26, .ifCond .eq 53, 29), (29, .iload 2, 30), (30, .i2l, 31), (31, .lconst 0, 32), (32, .iload 4, 34), (34, .i2l, 35), (35, .invokestatic 94101, 38), (38, .ifCond .eq 53, 41), (41, .aload 0, 42), (42, .iload 1, 43), (43, .iload 2, 44), (44, .iload 3, 45), (45, .iload 4, 47), (47, .invokevirtual 166171, 50), (50, .goto 55, 53), (53, .iconst (-2), 55), (55, .ireturn, 56)]
/-- BoxSpiderModel.toldOf(IIII)I -/
def pr_171 : List (Nat × Instr × Nat) := [(0, .aload 0, 1), (1, .iload 4, 3), (3, .invokevirtual 128133, 6), (6, .aload 0, 7), (7, .aload 0, 8), (8, .iload 2, 9), (9, .invokevirtual 133138, 12), (12, .iload 1, 13), (13, .invokevirtual 113120, 16), (16, .ifCond .eq 33, 19), (19, .aload 0, 20), (20, .aload 0, 21), (21, .iload 4, 23), (23, .invokevirtual 133138, 26), (26, .iload 3, 27), (27, .invokevirtual 113120, 30), (30, .ifCond .ne 36, 33), (33, .iconst (-3), 35), (35, .ireturn, 36), (36, .aload 0, 37), (37, .iload 1, 38), (38, .iload 2, 39), (39, .iload 3, 40), (40, .iload 4, 42), (42, .invokevirtual 142147, 45), (45, .istore 5, 47), (47, .iload 5, 49), (49, .iconst (-1), 50), (50, .if_icmp .ne 58, 53), (53, .iconst (-3), 55), (55, .goto 60, 58), (58, .iload 5, 60), (60, .ireturn, 61)]
/-- BoxSpiderModel.snail(IIII)I -/
def pr_172 : List (Nat × Instr × Nat) := [(0, .iload 1, 1), (1, .i2l, 2), (2, .ldc2_w 10, 5), (5, .ldc2_w 11, 8), (8, .invokestatic 94101, 11), (11, .ifCond .eq 40, 14), (14, .iload 2, 15), (15, .i2l, 16), (16, .ldc2_w 10, 19), (19, .ldc2_w 11, 22), (22, .invokestatic 94101, 25), (25, .ifCond .eq 40, 28), (28, .iload 1, 29), (29, .ifCond .ne 36, 32), (32, .iload 2, 33), (33, .ifCond .eq 40, 36), (36, .iconst 1, 37), (37, .goto 41, 40), (40, .iconst 0, 41), (41, .istore 5, 43), (43, .iload 5, 45), (45, .ifCond .eq 80, 48), (48, .iload 3, 49), (49, .i2l, 50), (50, .lconst 0, 51), (51, .ldc2_w 4, 54), (54, .invokestatic 94101, 57), (57, .ifCond .eq 80, 60), (60, .iload 4, 62), (62, .invokestatic 118124, 65), (65, .ifCond .eq 80, 68), (68, .aload 0, 69), (69, .iload 1, 70), (70, .iload 2, 71), (71, .iload 3, 72), (72, .iload 4, 74), (74, .invokevirtual 168173, 77), (77, .goto 82, 80), (80, .iconst (-2), 82), (82, .ireturn, 83)]
/-- BoxSpiderModel.snailOf(IIII)I -/
def pr_173 : List (Nat × Instr × Nat) := [(0, .aload 0, 1), (1, .invokevirtual 129134, 4), (4, .aload 0, 5), (5, .getfield 621005, 8), (8, .iconst 0, 9), (9, .iaload, 10), (10, .istore 5, 12), (12, .aload 0, 13), (13, .getfield 621005, 16), (16, .iconst 1, 17), (17, .iaload, 18), (18, .istore 6, 20), (20, .iconst (-1), 21), (21, .istore 7, 23), (23, .iconst 0, 24), (24, .istore 8, 26), (26, .iload 8, 28), (28, .iload 3, 29), (29, .if_icmp .ge 253, 32), (32, .iconst 2, 33), (33, .aload 0, 34), (34, .iconst 0, 35), (35, .iconst 0, 36), (36, .invokevirtual 132137, 39), (39, .iload 1, 40), (40, .ifCond .le 52, 43), (43, .aload 0, 44), (44, .iconst 0, 45), (45, .iconst 0, 46), (46, .invokevirtual 131136, 49), (49, .goto 53, 52), (52, .iconst 0, 53), (53, .iadd, 54), (54, .imul, 55), (55, .iload 5, 57), (57, .isub, 58), (58, .istore 9, 60), (60, .iconst 2, 61), (61, .aload 0, 62), (62, .iconst 0, 63), (63, .iconst 1, 64), (64, .invokevirtual 132137, 67), (67, .iload 2, 68), (68, .ifCond .le 80, 71), (71, .aload 0, 72), (72, .iconst 0, 73), (73, .iconst 3, 74), (74, .invokevirtual 131136, 77), (77, .goto 81, 80), (80, .iconst 0, 81), (81, .iadd, 82), (82, .imul, 83), (83, .iload 6, 85), (85, .isub, 86), (86, .istore 10, 88), (88, .iload 9, 90), (90, .ifCond .ge 99, 93), (93, .iload 9, 95), (95, .ineg, 96), (96, .goto 101, 99), (99, .iload 9, 101), (101, .iload 2, 102), (102, .ifCond .ge 110, 105), (105, .iload 2, 106), (106, .ineg, 107), (107, .goto 111, 110), (110, .iload 2, 111), (111, .imul, 112), (112, .istore 11, 114), (114, .iload 10, 116), (116, .ifCond .ge 125, 119), (119, .iload 10, 121), (121, .ineg, 122), (122, .goto 127, 125), (125, .iload 10, 127), (127, .iload 1, 128), (128, .ifCond .ge 136, 131), (131, .iload 1, 132), (132, .ineg, 133), (133, .goto 137, 136), (136, .iload 1, 137), (137, .imul, 138), (138, .istore 12, 140), (140, .iload 1, 141), (141, .ifCond .eq 157, 144), (144, .iload 2, 145), (145, .ifCond .eq 157, 148), (148, .iload 11, 150), (150, .iload 12, 152), (152, .if_icmp .ne 157, 155), (155, .iconst (-1), 156), (156, .ireturn, 157), (157, .iload 2, 158), (158, .ifCond .eq 172, 161), (161, .iload 1, 162), (162, .ifCond .eq 176, 165), (165, .iload 11, 167), (167, .iload 12, 169), (169, .if_icmp .ge 176, 172), (172, .iconst 1, 173), (173, .goto 177, 176), (176, .iconst 0, 177), (177, .istore 13, 179), (179, .iload 13, 181), (181, .ifCond .eq 196, 184), (184, .iload 1, 185), (185, .ifCond .le 192, 188), (188, .iconst 0, 189), (189, .goto 205, 192), (192, .iconst 1, 193), (193, .goto 205, 196), (196, .iload 2, 197), (197, .ifCond .le 204, 200), (200, .iconst 2, 201), (201, .goto 205, 204), (204, .iconst 3, 205), (205, .istore 7, 207), (207, .aload 0, 208), (208, .iconst 0, 209), (209, .iload 7, 211), (211, .invokevirtual 130135, 214), (214, .iconst 0, 215), (215, .istore 14, 217), (217, .iload 14, 219), (219, .iconst 14, 221), (221, .if_icmp .ge 247, 224), (224, .aload 0, 225), (225, .getfield 671010, 228), (228, .iload 14, 230), (230, .aload 0, 231), (231, .getfield 671010, 234), (234, .iconst 14, 236), (236, .iload 14, 238), (238, .iadd, 239), (239, .iaload, 240), (240, .iastore, 241), (241, .iinc 14 1, 244), (244, .goto 217, 247), (247, .iinc 8 1, 250), (250, .goto 26, 253), (253, .iload 4, 255), (255, .ifCond .ne 266, 258), (258, .aload 0, 259), (259, .iconst 0, 260), (260, .invokevirtual 133138, 263), (263, .goto 270, 266), (266, .iload 7, 268), (268, .iconst 1, 269), (269, .iadd, 270), (270, .ireturn, 271)]
/-- BoxSpiderModel.thread(IIII)I -/
def pr_174 : List (Nat × Instr × Nat) := [(0, .iload 1, 1), (1, .invokestatic 109116, 4), (4, .ifCond .eq 46, 7), (7, .iload 2, 8), (8, .invokestatic 109116, 11), (11, .ifCond .eq 46, 14), (14, .iload 3, 15), (15, .i2l, 16), (16, .lconst 0, 17), (17, .ldc2_w 9, 20), (20, .invokestatic 94101, 23), (23, .ifCond .eq 46, 26), (26, .iload 4, 28), (28, .invokestatic 118124, 31), (31, .ifCond .eq 46, 34), (34, .aload 0, 35), (35, .iload 1, 36), (36, .iload 2, 37), (37, .iload 3, 38), (38, .iload 4, 40), (40, .invokevirtual 170175, 43), (43, .goto 48, 46), (46, .iconst (-2), 48), (48, .ireturn, 49)]
/-- BoxSpiderModel.threadOf(IIII)I -/
def pr_175 : List (Nat × Instr × Nat) := [(0, .aload 0, 1), (1, .getfield 621005, 4), (4, .iconst 2, 5), (5, .iaload, 6), (6, .istore 5, 8), (8, .iconst 0, 9), (9, .istore 6, 11), (11, .iconst (-1), 12), (12, .istore 7, 14), (14, .iconst 1, 15), (15, .istore 8, 17), (17, .iload 8, 19), (19, .iconst 30, 21), (21, .if_icmp .gt 82, 24), (24, .aload 0, 25), (25, .getfield 621005, 28), (28, .iconst 2, 29), (29, .iload 8, 31), (31, .iastore, 32), (32, .aload 0, 33), (33, .iload 1, 34), (34, .invokevirtual 103110, 37), (37, .ifCond .eq 76, 40), (40, .aload 0, 41), (41, .iload 2, 42), (42, .invokevirtual 103110, 45), (45, .ifCond .eq 76, 48), (48, .aload 0, 49), (49, .iload 1, 50), (50, .iload 2, 51), (51, .invokevirtual 139144, 54), (54, .iload 3, 55), (55, .if_icmp .ne 76, 58), (58, .iinc 6 1, 61), (61, .iload 7, 63), (63, .iconst (-1), 64), (64, .if_icmp .ne 72, 67), (67, .iload 8, 69), (69, .goto 74, 72), (72, .iload 7, 74), (74, .istore 7, 76), (76, .iinc 8 1, 79), (79, .goto 17, 82), (82, .aload 0, 83), (83, .getfield 621005, 86), (86, .iconst 2, 87), (87, .iload 5, 89), (89, .iastore, 90), (90, .iload 4, 92), (92, .ifCond .ne 100, 95), (95, .iload 6, 97), (97, .goto 102, 100), (100, .iload 7, 102), (102, .ireturn, 103)]
/-- BoxSpiderModel.flies(IIII)I -/
def pr_176 : List (Nat × Instr × Nat) := [(0, .iload 1, 1), (1, .invokestatic 109116, 4), (4, .ifCond .eq 44, 7), (7, .iload 3, 8), (8, .i2l, 9), (9, .lconst 0, 10), (10, .ldc2_w 12, 13), (13, .invokestatic 94101, 16), (16, .ifCond .eq 44, 19), (19, .iload 4, 21), (21, .i2l, 22), (22, .lconst 0, 23), (23, .ldc2_w 9, 26), (26, .invokestatic 94101, 29), (29, .ifCond .eq 44, 32), (32, .aload 0, 33), (33, .iload 1, 34), (34, .iload 2, 35), (35, .iload 3, 36), (36, .iload 4, 38), (38, .invokevirtual 172177, 41), (41, .goto 46, 44), (44, .iconst (-2), 46), (46, .ireturn, 47)]
/-- BoxSpiderModel.fliesOf(IIII)I -/
def pr_177 : List (Nat × Instr × Nat) := [(0, .iconst 0, 1), (1, .istore 5, 3), (3, .iload 5, 5), (5, .iconst 8, 7), (7, .if_icmp .ge 46, 10), (10, .aload 0, 11), (11, .getfield 761019, 14), (14, .iload 5, 16), (16, .aload 0, 17), (17, .iload 1, 18), (18, .iload 5, 20), (20, .invokevirtual 139144, 23), (23, .i2l, 24), (24, .lconst 0, 25), (25, .iload 4, 27), (27, .i2l, 28), (28, .invokestatic 94101, 31), (31, .ifCond .eq 38, 34), (34, .iconst 1, 35), (35, .goto 39, 38), (38, .iconst 0, 39), (39, .iastore, 40), (40, .iinc 5 1, 43), (43, .goto 3, 46), (46, .iload 2, 47), (47, .istore 5, 49), (49, .iconst 0, 50), (50, .istore 6, 52), (52, .iconst 0, 53), (53, .istore 7, 55), (55, .iload 7, 57), (57, .iload 3, 58), (58, .if_icmp .ge 97, 61), (61, .ldc 6, 64), (64, .iload 5, 66), (66, .imul, 67), (67, .iconst 12345, 70), (70, .iadd, 71), (71, .istore 5, 73), (73, .iload 6, 75), (75, .aload 0, 76), (76, .getfield 761019, 79), (79, .iload 5, 81), (81, .iconst 16, 83), (83, .iushr, 84), (84, .iconst 8, 86), (86, .irem, 87), (87, .iaload, 88), (88, .iadd, 89), (89, .istore 6, 91), (91, .iinc 7 1, 94), (94, .goto 55, 97), (97, .iload 6, 99), (99, .ireturn, 100)]
/-- BoxSpiderModel.write(II)I -/
def pr_178 : List (Nat × Instr × Nat) := [(0, .iload 1, 1), (1, .invokestatic 109116, 4), (4, .ifCond .eq 14, 7), (7, .iload 2, 8), (8, .invokestatic 93100, 11), (11, .ifCond .ne 17, 14), (14, .iconst (-2), 16), (16, .ireturn, 17), (17, .aload 0, 18), (18, .getfield 571000, 21), (21, .iload 2, 22), (22, .iaload, 23), (23, .ifCond .ge 32, 26), (26, .aload 0, 27), (27, .iconst 1, 28), (28, .invokevirtual 95102, 31), (31, .ireturn, 32), (32, .aload 0, 33), (33, .getfield 581001, 36), (36, .iload 2, 37), (37, .iaload, 38), (38, .iconst 8, 40), (40, .invokestatic 145150, 43), (43, .istore 3, 44), (44, .iconst 0, 45), (45, .istore 4, 47), (47, .iload 4, 49), (49, .iload 3, 50), (50, .if_icmp .ge 87, 53), (53, .aload 0, 54), (54, .getfield 591002, 57), (57, .iconst 60, 59), (59, .iload 2, 60), (60, .imul, 61), (61, .iload 4, 63), (63, .iadd, 64), (64, .aload 0, 65), (65, .getfield 571000, 68), (68, .iload 2, 69), (69, .iaload, 70), (70, .aload 0, 71), (71, .iload 1, 72), (72, .iload 4, 74), (74, .invokevirtual 139144, 77), (77, .invokestatic 99106, 80), (80, .iastore, 81), (81, .iinc 4 1, 84), (84, .goto 47, 87), (87, .iload 3, 88), (88, .ireturn, 89)]
/-- BoxSpiderModel.count(I)I -/
def pr_179 : List (Nat × Instr × Nat) := [(0, .iload 1, 1), (1, .tableswitch 96 0 8 #[52, 57, 62, 62, 62, 71, 76, 81, 91], 52), (52, .aload 0, 53), (53, .invokevirtual 125131, 56), (56, .ireturn, 57), (57, .aload 0, 58), (58, .getfield 661009, 61), (61, .ireturn, 62), (62, .aload 0, 63), (63, .getfield 621005, 66), (66, .iload 1, 67), (67, .iconst 2, 68), (68, .isub, 69), (69, .iaload, 70), (70, .ireturn, 71), (71, .aload 0, 72), (72, .invokevirtual 175180, 75), (75, .ireturn, 76), (76, .aload 0, 77), (77, .invokevirtual 176181, 80), (80, .ireturn, 81), (81, .aload 0, 82), (82, .aload 0, 83), (83, .invokevirtual 125131, 86), (86, .iconst 0, 87), (87, .invokevirtual 127132, 90), (90, .ireturn, 91), (91, .aload 0, 92), (92, .getfield 611004, 95), (95, .ireturn, 96), (96, .iconst (-2), 98), (98, .ireturn, 99)]
/-- BoxSpiderModel.barred()I -/
def pr_180 : List (Nat × Instr × Nat) := [(0, .iconst 0, 1), (1, .istore 1, 2), (2, .iconst 0, 3), (3, .istore 2, 4), (4, .iload 2, 5), (5, .iconst 6, 7), (7, .if_icmp .ge 39, 10), (10, .aload 0, 11), (11, .getfield 641007, 14), (14, .iload 2, 15), (15, .iaload, 16), (16, .istore 3, 17), (17, .iload 3, 18), (18, .ifCond .eq 33, 21), (21, .iinc 1 1, 24), (24, .iload 3, 25), (25, .iload 3, 26), (26, .iconst 1, 27), (27, .isub, 28), (28, .iand, 29), (29, .istore 3, 30), (30, .goto 17, 33), (33, .iinc 2 1, 36), (36, .goto 4, 39), (39, .iload 1, 40), (40, .iconst 2, 41), (41, .idiv, 42), (42, .ireturn, 43)]
/-- BoxSpiderModel.unlike()I -/
def pr_181 : List (Nat × Instr × Nat) := [(0, .iconst 0, 1), (1, .istore 1, 2), (2, .iconst 0, 3), (3, .istore 2, 4), (4, .iload 2, 5), (5, .iconst 8, 7), (7, .if_icmp .ge 123, 10), (10, .iconst 0, 11), (11, .istore 3, 12), (12, .iconst 0, 13), (13, .istore 4, 15), (15, .iload 4, 17), (17, .iload 2, 18), (18, .if_icmp .ge 105, 21), (21, .iload 3, 22), (22, .ifCond .ne 93, 25), (25, .aload 0, 26), (26, .getfield 631006, 29), (29, .iconst 3, 30), (30, .iload 2, 31), (31, .imul, 32), (32, .iaload, 33), (33, .aload 0, 34), (34, .getfield 631006, 37), (37, .iconst 3, 38), (38, .iload 4, 40), (40, .imul, 41), (41, .iaload, 42), (42, .if_icmp .ne 97, 45), (45, .aload 0, 46), (46, .getfield 631006, 49), (49, .iconst 3, 50), (50, .iload 2, 51), (51, .imul, 52), (52, .iconst 1, 53), (53, .iadd, 54), (54, .iaload, 55), (55, .aload 0, 56), (56, .getfield 631006, 59), (59, .iconst 3, 60), (60, .iload 4, 62), (62, .imul, 63), (63, .iconst 1, 64), (64, .iadd, 65), (65, .iaload, 66), (66, .if_icmp .ne 97, 69), (69, .aload 0, 70), (70, .getfield 631006, 73), (73, .iconst 3, 74), (74, .iload 2, 75), (75, .imul, 76), (76, .iconst 2, 77), (77, .iadd, 78), (78, .iaload, 79), (79, .aload 0, 80), (80, .getfield 631006, 83), (83, .iconst 3, 84), (84, .iload 4, 86), (86, .imul, 87), (87, .iconst 2, 88), (88, .iadd, 89), (89, .iaload, 90), (90, .if_icmp .ne 97, 93), (93, .iconst 1, 94), (94, .goto 98, 97), (97, .iconst 0, 98), (98, .istore 3, 99), (99, .iinc 4 1, 102), (102, .goto 15, 105), (105, .iload 1, 106), (106, .iload 3, 107), (107, .ifCond .eq 114, 110), (110, .iconst 0, 111), (111, .goto 115, 114), (114, .iconst 1, 115), (115, .iadd, 116), (116, .istore 1, 117), (117, .iinc 2 1, 120), (120, .goto 4, 123), (123, .iload 1, 124), (124, .ireturn, 125)]
/-- BoxSpiderModel.digest()J -/
def pr_182 : List (Nat × Instr × Nat) := [(0, .ldc2_w 13, 3), (3, .lstore 1, 4), (4, .iconst 0, 5), (5, .istore 3, 6), (6, .iload 3, 7), (7, .iconst 8, 9), (9, .if_icmp .ge 31, 12), (12, .ldc2_w 14, 15), (15, .lload 1, 16), (16, .lmul, 17), (17, .aload 0, 18), (18, .iload 3, 19), (19, .invokevirtual 178179, 22), (22, .i2l, 23), (23, .ladd, 24), (24, .lstore 1, 25), (25, .iinc 3 1, 28), (28, .goto 6, 31), (31, .ldc2_w 14, 34), (34, .lload 1, 35), (35, .lmul, 36), (36, .aload 0, 37), (37, .invokevirtual 126128, 40), (40, .i2l, 41), (41, .ladd, 42), (42, .lstore 1, 43), (43, .iconst 0, 44), (44, .istore 3, 45), (45, .iload 3, 46), (46, .iconst 8, 48), (48, .if_icmp .ge 201, 51), (51, .iload 3, 52), (52, .iconst 1, 53), (53, .iadd, 54), (54, .iconst 8, 56), (56, .irem, 57), (57, .istore 4, 59), (59, .iconst 0, 60), (60, .istore 5, 62), (62, .iload 5, 64), (64, .iconst 4, 65), (65, .if_icmp .ge 89, 68), (68, .ldc2_w 14, 71), (71, .lload 1, 72), (72, .lmul, 73), (73, .aload 0, 74), (74, .iload 3, 75), (75, .iload 5, 77), (77, .invokevirtual 111118, 80), (80, .i2l, 81), (81, .ladd, 82), (82, .lstore 1, 83), (83, .iinc 5 1, 86), (86, .goto 62, 89), (89, .ldc2_w 14, 92), (92, .lload 1, 93), (93, .lmul, 94), (94, .aload 0, 95), (95, .iload 3, 96), (96, .iload 4, 98), (98, .invokevirtual 139144, 101), (101, .i2l, 102), (102, .ladd, 103), (103, .lstore 1, 104), (104, .ldc2_w 14, 107), (107, .lload 1, 108), (108, .lmul, 109), (109, .aload 0, 110), (110, .iload 3, 111), (111, .iload 4, 113), (113, .invokevirtual 151156, 116), (116, .i2l, 117), (117, .ladd, 118), (118, .lstore 1, 119), (119, .iconst 0, 120), (120, .istore 5, 122), (122, .iload 5, 124), (124, .iconst 3, 125), (125, .if_icmp .ge 151, 128), (128, .ldc2_w 14, 131), (131, .lload 1, 132), (132, .lmul, 133), (133, .aload 0, 134), (134, .iload 3, 135), (135, .iload 4, 137), (137, .iload 5, 139), (139, .invokevirtual 153158, 142), (142, .i2l, 143), (143, .ladd, 144), (144, .lstore 1, 145), (145, .iinc 5 1, 148), (148, .goto 122, 151), (151, .ldc2_w 14, 154), (154, .lload 1, 155), (155, .lmul, 156), (156, .aload 0, 157), (157, .iload 3, 158), (158, .invokevirtual 155160, 161), (161, .i2l, 162), (162, .ladd, 163), (163, .lstore 1, 164), (164, .ldc2_w 14, 167), (167, .lload 1, 168), (168, .lmul, 169), (169, .aload 0, 170), (170, .iload 3, 171), (171, .iconst 200, 174), (174, .invokevirtual 164169, 177), (177, .i2l, 178), (178, .ladd, 179), (179, .lstore 1, 180), (180, .ldc2_w 14, 183), (183, .lload 1, 184), (184, .lmul, 185), (185, .aload 0, 186), (186, .iload 3, 187), (187, .iconst 0, 188), (188, .iconst 0, 189), (189, .invokevirtual 135140, 192), (192, .i2l, 193), (193, .ladd, 194), (194, .lstore 1, 195), (195, .iinc 3 1, 198), (198, .goto 45, 201), (201, .aload 0, 202), (202, .invokevirtual 125131, 205), (205, .istore 3, 206), (206, .iconst 0, 207), (207, .istore 4, 209), (209, .iload 4, 211), (211, .iconst 5, 212), (212, .if_icmp .ge 236, 215), (215, .ldc2_w 14, 218), (218, .lload 1, 219), (219, .lmul, 220), (220, .aload 0, 221), (221, .iload 3, 222), (222, .iload 4, 224), (224, .invokevirtual 127132, 227), (227, .i2l, 228), (228, .ladd, 229), (229, .lstore 1, 230), (230, .iinc 4 1, 233), (233, .goto 209, 236), (236, .ldc2_w 14, 239), (239, .lload 1, 240), (240, .lmul, 241), (241, .aload 0, 242), (242, .invokevirtual 157162, 245), (245, .i2l, 246), (246, .ladd, 247), (247, .lstore 1, 248), (248, .ldc2_w 14, 251), (251, .lload 1, 252), (252, .lmul, 253), (253, .aload 0, 254), (254, .iconst 0, 255), (255, .iconst 1, 256), (256, .invokevirtual 159164, 259), (259, .i2l, 260), (260, .ladd, 261), (261, .lstore 1, 262), (262, .ldc2_w 14, 265), (265, .lload 1, 266), (266, .lmul, 267), (267, .aload 0, 268), (268, .iconst 255, 271), (271, .iconst (-1), 272), (272, .invokevirtual 161166, 275), (275, .i2l, 276), (276, .ladd, 277), (277, .lstore 1, 278), (278, .ldc2_w 14, 281), (281, .lload 1, 282), (282, .lmul, 283), (283, .aload 0, 284), (284, .iconst 255, 287), (287, .iconst (-2), 289), (289, .invokevirtual 161166, 292), (292, .i2l, 293), (293, .ladd, 294), (294, .lstore 1, 295), (295, .ldc2_w 14, 298), (298, .lload 1, 299), (299, .lmul, 300), (300, .aload 0, 301), (301, .iconst 255, 304), (304, .iconst 0, 305), (305, .invokevirtual 161166, 308), (308, .i2l, 309), (309, .ladd, 310), (310, .lstore 1, 311), (311, .ldc2_w 14, 314), (314, .lload 1, 315), (315, .lmul, 316), (316, .aload 0, 317), (317, .iconst 0, 318), (318, .iconst 0, 319), (319, .iconst 1, 320), (320, .iload 3, 321), (321, .invokevirtual 166171, 324), (324, .i2l, 325), (325, .ladd, 326), (326, .lstore 1, 327), (327, .ldc2_w 14, 330), (330, .lload 1, 331), (331, .lmul, 332), (332, .aload 0, 333), (333, .iconst 2, 334), (334, .iconst 1, 335), (335, .iconst 5, 336), (336, .iconst 0, 337), (337, .invokevirtual 168173, 340), (340, .i2l, 341), (341, .ladd, 342), (342, .lstore 1, 343), (343, .ldc2_w 14, 346), (346, .lload 1, 347), (347, .lmul, 348), (348, .aload 0, 349), (349, .iconst 3, 350), (350, .iconst (-2), 352), (352, .iconst 8, 354), (354, .iconst 1, 355), (355, .invokevirtual 168173, 358), (358, .i2l, 359), (359, .ladd, 360), (360, .lstore 1, 361), (361, .ldc2_w 14, 364), (364, .lload 1, 365), (365, .lmul, 366), (366, .aload 0, 367), (367, .iconst 0, 368), (368, .iconst 1, 369), (369, .iconst 100, 371), (371, .iconst 0, 372), (372, .invokevirtual 170175, 375), (375, .i2l, 376), (376, .ladd, 377), (377, .lstore 1, 378), (378, .ldc2_w 14, 381), (381, .lload 1, 382), (382, .lmul, 383), (383, .aload 0, 384), (384, .iconst 0, 385), (385, .iconst 7, 387), (387, .iconst 20, 389), (389, .iconst 300, 392), (392, .invokevirtual 172177, 395), (395, .i2l, 396), (396, .ladd, 397), (397, .lreturn, 398)]
/-- BoxSpiderLaw.law([I)Z -/
def pr_183 : List (Nat × Instr × Nat) := [(0, .new 9, 3), (3, .dup, 4), (4, .invokespecial 0, 7), (7, .astore 1, 8), (8, .new 1410, 11), (11, .dup, 12), (12, .invokespecial 90098, 15), (15, .astore 2, 16), (16, .iconst 0, 17), (17, .istore 3, 18), (18, .iload 3, 19), (19, .aload 0, 20), (20, .arraylength, 21), (21, .iconst 6, 23), (23, .isub, 24), (24, .if_icmp .gt 1252, 27), (27, .aload 0, 28), (28, .iload 3, 29), (29, .iaload, 30), (30, .iconst 31, 32), (32, .iand, 33), (33, .tableswitch 1246 0 30 #[172, 205, 258, 291, 314, 337, 350, 363, 376, 419, 452, 495, 528, 561, 604, 627, 640, 673, 706, 739, 792, 845, 898, 951, 994, 1017, 1070, 1113, 1176, 1209, 1232], 172), (172, .aload 1, 173), (173, .aload 0, 174), (174, .iload 3, 175), (175, .iconst 1, 176), (176, .iadd, 177), (177, .iaload, 178), (178, .aload 0, 179), (179, .iload 3, 180), (180, .iconst 2, 181), (181, .iadd, 182), (182, .iaload, 183), (183, .invokevirtual 11010, 186), (186, .aload 2, 187), (187, .aload 0, 188), (188, .iload 3, 189), (189, .iconst 1, 190), (190, .iadd, 191), (191, .iaload, 192), (192, .aload 0, 193), (193, .iload 3, 194), (194, .iconst 2, 195), (195, .iadd, 196), (196, .iaload, 197), (197, .invokevirtual 102109, 200), (200, .if_icmp .eq 1246, 203), (203, .iconst 0, 204), (204, .ireturn, 205), (205, .aload 1, 206), (206, .aload 0, 207), (207, .iload 3, 208), (208, .iconst 1, 209), (209, .iadd, 210), (210, .iaload, 211), (211, .aload 0, 212), (212, .iload 3, 213), (213, .iconst 2, 214), (214, .iadd, 215), (215, .iaload, 216), (216, .aload 0, 217), (217, .iload 3, 218), (218, .iconst 3, 219), (219, .iadd, 220), (220, .iaload, 221), (221, .aload 0, 222), (222, .iload 3, 223), (223, .iconst 4, 224), (224, .iadd, 225), (225, .iaload, 226), (226, .invokevirtual 15017, 229), (229, .aload 2, 230), (230, .aload 0, 231), (231, .iload 3, 232), (232, .iconst 1, 233), (233, .iadd, 234), (234, .iaload, 235), (235, .aload 0, 236), (236, .iload 3, 237), (237, .iconst 2, 238), (238, .iadd, 239), (239, .iaload, 240), (240, .aload 0, 241), (241, .iload 3, 242), (242, .iconst 3, 243), (243, .iadd, 244), (244, .iaload, 245), (245, .aload 0, 246), (246, .iload 3, 247), (247, .iconst 4, 248), (248, .iadd, 249), (249, .iaload, 250), (250, .invokevirtual 108115, 253), (253, .if_icmp .eq 1246, 256), (256, .iconst 0, 257), (257, .ireturn, 258), (258, .aload 1, 259), (259, .aload 0, 260), (260, .iload 3, 261), (261, .iconst 1, 262), (262, .iadd, 263), (263, .iaload, 264), (264, .aload 0, 265), (265, .iload 3, 266), (266, .iconst 2, 267), (267, .iadd, 268), (268, .iaload, 269), (269, .invokevirtual 17019, 272), (272, .aload 2, 273), (273, .aload 0, 274), (274, .iload 3, 275), (275, .iconst 1, 276), (276, .iadd, 277), (277, .iaload, 278), (278, .aload 0, 279), (279, .iload 3, 280), (280, .iconst 2, 281), (281, .iadd, 282), (282, .iaload, 283), (283, .invokevirtual 110117, 286), (286, .if_icmp .eq 1246, 289), (289, .iconst 0, 290), (290, .ireturn, 291), (291, .aload 1, 292), (292, .aload 0, 293), (293, .iload 3, 294), (294, .iconst 1, 295), (295, .iadd, 296), (296, .iaload, 297), (297, .invokevirtual 18022, 300), (300, .aload 2, 301), (301, .aload 0, 302), (302, .iload 3, 303), (303, .iconst 1, 304), (304, .iadd, 305), (305, .iaload, 306), (306, .invokevirtual 114121, 309), (309, .if_icmp .eq 1246, 312), (312, .iconst 0, 313), (313, .ireturn, 314), (314, .aload 1, 315), (315, .aload 0, 316), (316, .iload 3, 317), (317, .iconst 1, 318), (318, .iadd, 319), (319, .iaload, 320), (320, .invokevirtual 22026, 323), (323, .aload 2, 324), (324, .aload 0, 325), (325, .iload 3, 326), (326, .iconst 1, 327), (327, .iadd, 328), (328, .iaload, 329), (329, .invokevirtual 119125, 332), (332, .if_icmp .eq 1246, 335), (335, .iconst 0, 336), (336, .ireturn, 337), (337, .aload 1, 338), (338, .invokevirtual 23028, 341), (341, .aload 2, 342), (342, .invokevirtual 120126, 345), (345, .if_icmp .eq 1246, 348), (348, .iconst 0, 349), (349, .ireturn, 350), (350, .aload 1, 351), (351, .invokevirtual 24029, 354), (354, .aload 2, 355), (355, .invokevirtual 121127, 358), (358, .if_icmp .eq 1246, 361), (361, .iconst 0, 362), (362, .ireturn, 363), (363, .aload 1, 364), (364, .invokevirtual 25030, 367), (367, .aload 2, 368), (368, .invokevirtual 122128, 371), (371, .if_icmp .eq 1246, 374), (374, .iconst 0, 375), (375, .ireturn, 376), (376, .aload 1, 377), (377, .aload 0, 378), (378, .iload 3, 379), (379, .iconst 1, 380), (380, .iadd, 381), (381, .iaload, 382), (382, .aload 0, 383), (383, .iload 3, 384), (384, .iconst 2, 385), (385, .iadd, 386), (386, .iaload, 387), (387, .aload 0, 388), (388, .iload 3, 389), (389, .iconst 3, 390), (390, .iadd, 391), (391, .iaload, 392), (392, .invokevirtual 27033, 395), (395, .aload 2, 396), (396, .aload 0, 397), (397, .iload 3, 398), (398, .iconst 1, 399), (399, .iadd, 400), (400, .iaload, 401), (401, .aload 0, 402), (402, .iload 3, 403), (403, .iconst 2, 404), (404, .iadd, 405), (405, .iaload, 406), (406, .aload 0, 407), (407, .iload 3, 408), (408, .iconst 3, 409), (409, .iadd, 410), (410, .iaload, 411), (411, .invokevirtual 116122, 414), (414, .if_icmp .eq 1246, 417), (417, .iconst 0, 418), (418, .ireturn, 419), (419, .aload 1, 420), (420, .aload 0, 421), (421, .iload 3, 422), (422, .iconst 1, 423), (423, .iadd, 424), (424, .iaload, 425), (425, .aload 0, 426), (426, .iload 3, 427), (427, .iconst 2, 428), (428, .iadd, 429), (429, .iaload, 430), (430, .invokevirtual 29037, 433), (433, .aload 2, 434), (434, .aload 0, 435), (435, .iload 3, 436), (436, .iconst 1, 437), (437, .iadd, 438), (438, .iaload, 439), (439, .aload 0, 440), (440, .iload 3, 441), (441, .iconst 2, 442), (442, .iadd, 443), (443, .iaload, 444), (444, .invokevirtual 124130, 447), (447, .if_icmp .eq 1246, 450), (450, .iconst 0, 451), (451, .ireturn, 452), (452, .aload 1, 453), (453, .aload 0, 454), (454, .iload 3, 455), (455, .iconst 1, 456), (456, .iadd, 457), (457, .iaload, 458), (458, .aload 0, 459), (459, .iload 3, 460), (460, .iconst 2, 461), (461, .iadd, 462), (462, .iaload, 463), (463, .aload 0, 464), (464, .iload 3, 465), (465, .iconst 3, 466), (466, .iadd, 467), (467, .iaload, 468), (468, .invokevirtual 32042, 471), (471, .aload 2, 472), (472, .aload 0, 473), (473, .iload 3, 474), (474, .iconst 1, 475), (475, .iadd, 476), (476, .iaload, 477), (477, .aload 0, 478), (478, .iload 3, 479), (479, .iconst 2, 480), (480, .iadd, 481), (481, .iaload, 482), (482, .aload 0, 483), (483, .iload 3, 484), (484, .iconst 3, 485), (485, .iadd, 486), (486, .iaload, 487), (487, .invokevirtual 134139, 490), (490, .if_icmp .eq 1246, 493), (493, .iconst 0, 494), (494, .ireturn, 495), (495, .aload 1, 496), (496, .aload 0, 497), (497, .iload 3, 498), (498, .iconst 1, 499), (499, .iadd, 500), (500, .iaload, 501), (501, .aload 0, 502), (502, .iload 3, 503), (503, .iconst 2, 504), (504, .iadd, 505), (505, .iaload, 506), (506, .invokevirtual 33046, 509), (509, .aload 2, 510), (510, .aload 0, 511), (511, .iload 3, 512), (512, .iconst 1, 513), (513, .iadd, 514), (514, .iaload, 515), (515, .aload 0, 516), (516, .iload 3, 517), (517, .iconst 2, 518), (518, .iadd, 519), (519, .iaload, 520), (520, .invokevirtual 138143, 523), (523, .if_icmp .eq 1246, 526), (526, .iconst 0, 527), (527, .ireturn, 528), (528, .aload 1, 529), (529, .aload 0, 530), (530, .iload 3, 531), (531, .iconst 1, 532), (532, .iadd, 533), (533, .iaload, 534), (534, .aload 0, 535), (535, .iload 3, 536), (536, .iconst 2, 537), (537, .iadd, 538), (538, .iaload, 539), (539, .invokevirtual 38058, 542), (542, .aload 2, 543), (543, .aload 0, 544), (544, .iload 3, 545), (545, .iconst 1, 546), (546, .iadd, 547), (547, .iaload, 548), (548, .aload 0, 549), (549, .iload 3, 550), (550, .iconst 2, 551), (551, .iadd, 552), (552, .iaload, 553), (553, .invokevirtual 150155, 556), (556, .if_icmp .eq 1246, 559), (559, .iconst 0, 560), (560, .ireturn, 561), (561, .aload 1, 562), (562, .aload 0, 563), (563, .iload 3, 564), (564, .iconst 1, 565), (565, .iadd, 566), (566, .iaload, 567), (567, .aload 0, 568), (568, .iload 3, 569), (569, .iconst 2, 570), (570, .iadd, 571), (571, .iaload, 572), (572, .aload 0, 573), (573, .iload 3, 574), (574, .iconst 3, 575), (575, .iadd, 576), (576, .iaload, 577), (577, .invokevirtual 39059, 580), (580, .aload 2, 581), (581, .aload 0, 582), (582, .iload 3, 583), (583, .iconst 1, 584), (584, .iadd, 585), (585, .iaload, 586), (586, .aload 0, 587), (587, .iload 3, 588), (588, .iconst 2, 589), (589, .iadd, 590), (590, .iaload, 591), (591, .aload 0, 592), (592, .iload 3, 593), (593, .iconst 3, 594), (594, .iadd, 595), (595, .iaload, 596), (596, .invokevirtual 152157, 599), (599, .if_icmp .eq 1246, 602), (602, .iconst 0, 603), (603, .ireturn, 604), (604, .aload 1, 605), (605, .aload 0, 606), (606, .iload 3, 607), (607, .iconst 1, 608), (608, .iadd, 609), (609, .iaload, 610), (610, .invokevirtual 40061, 613), (613, .aload 2, 614), (614, .aload 0, 615), (615, .iload 3, 616), (616, .iconst 1, 617), (617, .iadd, 618), (618, .iaload, 619), (619, .invokevirtual 154159, 622), (622, .if_icmp .eq 1246, 625), (625, .iconst 0, 626), (626, .ireturn, 627), (627, .aload 1, 628), (628, .invokevirtual 41062, 631), (631, .aload 2, 632), (632, .invokevirtual 156161, 635), (635, .if_icmp .eq 1246, 638), (638, .iconst 0, 639), (639, .ireturn, 640), (640, .aload 1, 641), (641, .aload 0, 642), (642, .iload 3, 643), (643, .iconst 1, 644), (644, .iadd, 645), (645, .iaload, 646), (646, .aload 0, 647), (647, .iload 3, 648), (648, .iconst 2, 649), (649, .iadd, 650), (650, .iaload, 651), (651, .invokevirtual 44064, 654), (654, .aload 2, 655), (655, .aload 0, 656), (656, .iload 3, 657), (657, .iconst 1, 658), (658, .iadd, 659), (659, .iaload, 660), (660, .aload 0, 661), (661, .iload 3, 662), (662, .iconst 2, 663), (663, .iadd, 664), (664, .iaload, 665), (665, .invokevirtual 158163, 668), (668, .if_icmp .eq 1246, 671), (671, .iconst 0, 672), (672, .ireturn, 673), (673, .aload 1, 674), (674, .aload 0, 675), (675, .iload 3, 676), (676, .iconst 1, 677), (677, .iadd, 678), (678, .iaload, 679), (679, .aload 0, 680), (680, .iload 3, 681), (681, .iconst 2, 682), (682, .iadd, 683), (683, .iaload, 684), (684, .invokevirtual 45065, 687), (687, .aload 2, 688), (688, .aload 0, 689), (689, .iload 3, 690), (690, .iconst 1, 691), (691, .iadd, 692), (692, .iaload, 693), (693, .aload 0, 694), (694, .iload 3, 695), (695, .iconst 2, 696), (696, .iadd, 697), (697, .iaload, 698), (698, .invokevirtual 160165, 701), (701, .if_icmp .eq 1246, 704), (704, .iconst 0, 705), (705, .ireturn, 706), (706, .aload 1, 707), (707, .aload 0, 708), (708, .iload 3, 709), (709, .iconst 1, 710), (710, .iadd, 711), (711, .iaload, 712), (712, .aload 0, 713), (713, .iload 3, 714), (714, .iconst 2, 715), (715, .iadd, 716), (716, .iaload, 717), (717, .invokevirtual 48070, 720), (720, .aload 2, 721), (721, .aload 0, 722), (722, .iload 3, 723), (723, .iconst 1, 724), (724, .iadd, 725), (725, .iaload, 726), (726, .aload 0, 727), (727, .iload 3, 728), (728, .iconst 2, 729), (729, .iadd, 730), (730, .iaload, 731), (731, .invokevirtual 163168, 734), (734, .if_icmp .eq 1246, 737), (737, .iconst 0, 738), (738, .ireturn, 739), (739, .aload 1, 740), (740, .aload 0, 741), (741, .iload 3, 742), (742, .iconst 1, 743), (743, .iadd, 744), (744, .iaload, 745), (745, .aload 0, 746), (746, .iload 3, 747), (747, .iconst 2, 748), (748, .iadd, 749), (749, .iaload, 750), (750, .aload 0, 751), (751, .iload 3, 752), (752, .iconst 3, 753), (753, .iadd, 754), (754, .iaload, 755), (755, .aload 0, 756), (756, .iload 3, 757), (757, .iconst 4, 758), (758, .iadd, 759), (759, .iaload, 760), (760, .invokevirtual 51073, 763), (763, .aload 2, 764), (764, .aload 0, 765), (765, .iload 3, 766), (766, .iconst 1, 767), (767, .iadd, 768), (768, .iaload, 769), (769, .aload 0, 770), (770, .iload 3, 771), (771, .iconst 2, 772), (772, .iadd, 773), (773, .iaload, 774), (774, .aload 0, 775), (775, .iload 3, 776), (776, .iconst 3, 777), (777, .iadd, 778), (778, .iaload, 779), (779, .aload 0, 780), (780, .iload 3, 781), (781, .iconst 4, 782), (782, .iadd, 783), (783, .iaload, 784), (784, .invokevirtual 165170, 787), (787, .if_icmp .eq 1246, 790), (790, .iconst 0, 791), (791, .ireturn, 792), (792, .aload 1, 793), (793, .aload 0, 794), (794, .iload 3, 795), (795, .iconst 1, 796), (796, .iadd, 797), (797, .iaload, 798), (798, .aload 0, 799), (799, .iload 3, 800), (800, .iconst 2, 801), (801, .iadd, 802), (802, .iaload, 803), (803, .aload 0, 804), (804, .iload 3, 805), (805, .iconst 3, 806), (806, .iadd, 807), (807, .iaload, 808), (808, .aload 0, 809), (809, .iload 3, 810), (810, .iconst 4, 811), (811, .iadd, 812), (812, .iaload, 813), (813, .invokevirtual 53075, 816), (816, .aload 2, 817), (817, .aload 0, 818), (818, .iload 3, 819), (819, .iconst 1, 820), (820, .iadd, 821), (821, .iaload, 822), (822, .aload 0, 823), (823, .iload 3, 824), (824, .iconst 2, 825), (825, .iadd, 826), (826, .iaload, 827), (827, .aload 0, 828), (828, .iload 3, 829), (829, .iconst 3, 830), (830, .iadd, 831), (831, .iaload, 832), (832, .aload 0, 833), (833, .iload 3, 834), (834, .iconst 4, 835), (835, .iadd, 836), (836, .iaload, 837), (837, .invokevirtual 167172, 840), (840, .if_icmp .eq 1246, 843), (843, .iconst 0, 844), (844, .ireturn, 845), (845, .aload 1, 846), (846, .aload 0, 847), (847, .iload 3, 848), (848, .iconst 1, 849), (849, .iadd, 850), (850, .iaload, 851), (851, .aload 0, 852), (852, .iload 3, 853), (853, .iconst 2, 854), (854, .iadd, 855), (855, .iaload, 856), (856, .aload 0, 857), (857, .iload 3, 858), (858, .iconst 3, 859), (859, .iadd, 860), (860, .iaload, 861), (861, .aload 0, 862), (862, .iload 3, 863), (863, .iconst 4, 864), (864, .iadd, 865), (865, .iaload, 866), (866, .invokevirtual 57078, 869), (869, .aload 2, 870), (870, .aload 0, 871), (871, .iload 3, 872), (872, .iconst 1, 873), (873, .iadd, 874), (874, .iaload, 875), (875, .aload 0, 876), (876, .iload 3, 877), (877, .iconst 2, 878), (878, .iadd, 879), (879, .iaload, 880), (880, .aload 0, 881), (881, .iload 3, 882), (882, .iconst 3, 883), (883, .iadd, 884), (884, .iaload, 885), (885, .aload 0, 886), (886, .iload 3, 887), (887, .iconst 4, 888), (888, .iadd, 889), (889, .iaload, 890), (890, .invokevirtual 169174, 893), (893, .if_icmp .eq 1246, 896), (896, .iconst 0, 897), (897, .ireturn, 898), (898, .aload 1, 899), (899, .aload 0, 900), (900, .iload 3, 901), (901, .iconst 1, 902), (902, .iadd, 903), (903, .iaload, 904), (904, .aload 0, 905), (905, .iload 3, 906), (906, .iconst 2, 907), (907, .iadd, 908), (908, .iaload, 909), (909, .aload 0, 910), (910, .iload 3, 911), (911, .iconst 3, 912), (912, .iadd, 913), (913, .iaload, 914), (914, .aload 0, 915), (915, .iload 3, 916), (916, .iconst 4, 917), (917, .iadd, 918), (918, .iaload, 919), (919, .invokevirtual 60080, 922), (922, .aload 2, 923), (923, .aload 0, 924), (924, .iload 3, 925), (925, .iconst 1, 926), (926, .iadd, 927), (927, .iaload, 928), (928, .aload 0, 929), (929, .iload 3, 930), (930, .iconst 2, 931), (931, .iadd, 932), (932, .iaload, 933), (933, .aload 0, 934), (934, .iload 3, 935), (935, .iconst 3, 936), (936, .iadd, 937), (937, .iaload, 938), (938, .aload 0, 939), (939, .iload 3, 940), (940, .iconst 4, 941), (941, .iadd, 942), (942, .iaload, 943), (943, .invokevirtual 171176, 946), (946, .if_icmp .eq 1246, 949), (949, .iconst 0, 950), (950, .ireturn, 951), (951, .aload 1, 952), (952, .aload 0, 953), (953, .iload 3, 954), (954, .iconst 1, 955), (955, .iadd, 956), (956, .iaload, 957), (957, .aload 0, 958), (958, .iload 3, 959), (959, .iconst 2, 960), (960, .iadd, 961), (961, .iaload, 962), (962, .aload 0, 963), (963, .iload 3, 964), (964, .iconst 3, 965), (965, .iadd, 966), (966, .iaload, 967), (967, .invokevirtual 61081, 970), (970, .aload 2, 971), (971, .aload 0, 972), (972, .iload 3, 973), (973, .iconst 1, 974), (974, .iadd, 975), (975, .iaload, 976), (976, .aload 0, 977), (977, .iload 3, 978), (978, .iconst 2, 979), (979, .iadd, 980), (980, .iaload, 981), (981, .aload 0, 982), (982, .iload 3, 983), (983, .iconst 3, 984), (984, .iadd, 985), (985, .iaload, 986), (986, .invokevirtual 92099, 989), (989, .if_icmp .eq 1246, 992), (992, .iconst 0, 993), (993, .ireturn, 994), (994, .aload 1, 995), (995, .aload 0, 996), (996, .iload 3, 997), (997, .iconst 1, 998), (998, .iadd, 999), (999, .iaload, 1000), (1000, .invokevirtual 63084, 1003), (1003, .aload 2, 1004), (1004, .aload 0, 1005), (1005, .iload 3, 1006), (1006, .iconst 1, 1007), (1007, .iadd, 1008), (1008, .iaload, 1009), (1009, .invokevirtual 96103, 1012), (1012, .if_icmp .eq 1246, 1015), (1015, .iconst 0, 1016), (1016, .ireturn, 1017), (1017, .aload 1, 1018), (1018, .aload 0, 1019), (1019, .iload 3, 1020), (1020, .iconst 1, 1021), (1021, .iadd, 1022), (1022, .iaload, 1023), (1023, .aload 0, 1024), (1024, .iload 3, 1025), (1025, .iconst 2, 1026), (1026, .iadd, 1027), (1027, .iaload, 1028), (1028, .aload 0, 1029), (1029, .iload 3, 1030), (1030, .iconst 3, 1031), (1031, .iadd, 1032), (1032, .iaload, 1033), (1033, .aload 0, 1034), (1034, .iload 3, 1035), (1035, .iconst 4, 1036), (1036, .iadd, 1037), (1037, .iaload, 1038), (1038, .invokevirtual 64085, 1041), (1041, .aload 2, 1042), (1042, .aload 0, 1043), (1043, .iload 3, 1044), (1044, .iconst 1, 1045), (1045, .iadd, 1046), (1046, .iaload, 1047), (1047, .aload 0, 1048), (1048, .iload 3, 1049), (1049, .iconst 2, 1050), (1050, .iadd, 1051), (1051, .iaload, 1052), (1052, .aload 0, 1053), (1053, .iload 3, 1054), (1054, .iconst 3, 1055), (1055, .iadd, 1056), (1056, .iaload, 1057), (1057, .aload 0, 1058), (1058, .iload 3, 1059), (1059, .iconst 4, 1060), (1060, .iadd, 1061), (1061, .iaload, 1062), (1062, .invokevirtual 97104, 1065), (1065, .if_icmp .eq 1246, 1068), (1068, .iconst 0, 1069), (1069, .ireturn, 1070), (1070, .aload 1, 1071), (1071, .aload 0, 1072), (1072, .iload 3, 1073), (1073, .iconst 1, 1074), (1074, .iadd, 1075), (1075, .iaload, 1076), (1076, .aload 0, 1077), (1077, .iload 3, 1078), (1078, .iconst 2, 1079), (1079, .iadd, 1080), (1080, .iaload, 1081), (1081, .aload 0, 1082), (1082, .iload 3, 1083), (1083, .iconst 3, 1084), (1084, .iadd, 1085), (1085, .iaload, 1086), (1086, .invokevirtual 66088, 1089), (1089, .aload 2, 1090), (1090, .aload 0, 1091), (1091, .iload 3, 1092), (1092, .iconst 1, 1093), (1093, .iadd, 1094), (1094, .iaload, 1095), (1095, .aload 0, 1096), (1096, .iload 3, 1097), (1097, .iconst 2, 1098), (1098, .iadd, 1099), (1099, .iaload, 1100), (1100, .aload 0, 1101), (1101, .iload 3, 1102), (1102, .iconst 3, 1103), (1103, .iadd, 1104), (1104, .iaload, 1105), (1105, .invokevirtual 100107, 1108), (1108, .if_icmp .eq 1246, 1111), (1111, .iconst 0, 1112), (1112, .ireturn, 1113), (1113, .aload 1, 1114), (1114, .aload 0, 1115), (1115, .iload 3, 1116), (1116, .iconst 1, 1117), (1117, .iadd, 1118), (1118, .iaload, 1119), (1119, .aload 0, 1120), (1120, .iload 3, 1121), (1121, .iconst 2, 1122), (1122, .iadd, 1123), (1123, .iaload, 1124), (1124, .aload 0, 1125), (1125, .iload 3, 1126), (1126, .iconst 3, 1127), (1127, .iadd, 1128), (1128, .iaload, 1129), (1129, .aload 0, 1130), (1130, .iload 3, 1131), (1131, .iconst 4, 1132), (1132, .iadd, 1133), (1133, .iaload, 1134), (1134, .aload 0, 1135), (1135, .iload 3, 1136), (1136, .iconst 5, 1137), (1137, .iadd, 1138), (1138, .iaload, 1139), (1139, .invokevirtual 67089, 1142), (1142, .aload 2, 1143), (1143, .aload 0, 1144), (1144, .iload 3, 1145), (1145, .iconst 1, 1146), (1146, .iadd, 1147), (1147, .iaload, 1148), (1148, .aload 0, 1149), (1149, .iload 3, 1150), (1150, .iconst 2, 1151), (1151, .iadd, 1152), (1152, .iaload, 1153), (1153, .aload 0, 1154), (1154, .iload 3, 1155), (1155, .iconst 3, 1156), (1156, .iadd, 1157), (1157, .iaload, 1158), (1158, .aload 0, 1159), (1159, .iload 3, 1160), (1160, .iconst 4, 1161), (1161, .iadd, 1162), (1162, .iaload, 1163), (1163, .aload 0, 1164), (1164, .iload 3, 1165), (1165, .iconst 5, 1166), (1166, .iadd, 1167), (1167, .iaload, 1168), (1168, .invokevirtual 101108, 1171), (1171, .if_icmp .eq 1246, 1174), (1174, .iconst 0, 1175), (1175, .ireturn, 1176), (1176, .aload 1, 1177), (1177, .aload 0, 1178), (1178, .iload 3, 1179), (1179, .iconst 1, 1180), (1180, .iadd, 1181), (1181, .iaload, 1182), (1182, .aload 0, 1183), (1183, .iload 3, 1184), (1184, .iconst 2, 1185), (1185, .iadd, 1186), (1186, .iaload, 1187), (1187, .invokevirtual 68091, 1190), (1190, .aload 2, 1191), (1191, .aload 0, 1192), (1192, .iload 3, 1193), (1193, .iconst 1, 1194), (1194, .iadd, 1195), (1195, .iaload, 1196), (1196, .aload 0, 1197), (1197, .iload 3, 1198), (1198, .iconst 2, 1199), (1199, .iadd, 1200), (1200, .iaload, 1201), (1201, .invokevirtual 173178, 1204), (1204, .if_icmp .eq 1246, 1207), (1207, .iconst 0, 1208), (1208, .ireturn, 1209), (1209, .aload 1, 1210), (1210, .aload 0, 1211), (1211, .iload 3, 1212), (1212, .iconst 1, 1213), (1213, .iadd, 1214), (1214, .iaload, 1215), (1215, .invokevirtual 69092, 1218), (1218, .aload 2, 1219), (1219, .aload 0, 1220), (1220, .iload 3, 1221), (1221, .iconst 1, 1222), (1222, .iadd, 1223), (1223, .iaload, 1224), (1224, .invokevirtual 174179, 1227), (1227, .if_icmp .eq 1246, 1230), (1230, .iconst 0, 1231), (1231, .ireturn, 1232), (1232, .aload 1, 1233), (1233, .invokevirtual 72097, 1236), (1236, .aload 2, 1237), (1237, .invokevirtual 177182, 1240), (1240, .lcmp, 1241), (1241, .ifCond .eq 1246, 1244), (1244, .iconst 0, 1245), (1245, .ireturn, 1246), (1246, .iinc 3 6, 1249), (1249, .goto 18, 1252), (1252, .iconst 1, 1253), (1253, .ireturn, 1254)]
def prL : List (List (Nat × Instr × Nat)) := [pr_0, pr_1, pr_2, pr_3, pr_4, pr_5, pr_6, pr_7, pr_8, pr_9, pr_10, pr_11, pr_12, pr_13, pr_14, pr_15, pr_16, pr_17, pr_18, pr_19, pr_20, pr_21, pr_22, pr_23, pr_24, pr_25, pr_26, pr_27, pr_28, pr_29, pr_30, pr_31, pr_32, pr_33, pr_34, pr_35, pr_36, pr_37, pr_38, pr_39, pr_40, pr_41, pr_42, pr_43, pr_44, pr_45, pr_46, pr_47, pr_48, pr_49, pr_50, pr_51, pr_52, pr_53, pr_54, pr_55, pr_56, pr_57, pr_58, pr_59, pr_60, pr_61, pr_62, pr_63, pr_64, pr_65, pr_66, pr_67, pr_68, pr_69, pr_70, pr_71, pr_72, pr_73, pr_74, pr_75, pr_76, pr_77, pr_78, pr_79, pr_80, pr_81, pr_82, pr_83, pr_84, pr_85, pr_86, pr_87, pr_88, pr_89, pr_90, pr_91, pr_92, pr_93, pr_94, pr_95, pr_96, pr_97, pr_98, pr_99, pr_100, pr_101, pr_102, pr_103, pr_104, pr_105, pr_106, pr_107, pr_108, pr_109, pr_110, pr_111, pr_112, pr_113, pr_114, pr_115, pr_116, pr_117, pr_118, pr_119, pr_120, pr_121, pr_122, pr_123, pr_124, pr_125, pr_126, pr_127, pr_128, pr_129, pr_130, pr_131, pr_132, pr_133, pr_134, pr_135, pr_136, pr_137, pr_138, pr_139, pr_140, pr_141, pr_142, pr_143, pr_144, pr_145, pr_146, pr_147, pr_148, pr_149, pr_150, pr_151, pr_152, pr_153, pr_154, pr_155, pr_156, pr_157, pr_158, pr_159, pr_160, pr_161, pr_162, pr_163, pr_164, pr_165, pr_166, pr_167, pr_168, pr_169, pr_170, pr_171, pr_172, pr_173, pr_174, pr_175, pr_176, pr_177, pr_178, pr_179, pr_180, pr_181, pr_182, pr_183]
end
section
/-- the words of the tables that every callee is handed -/
def GT : List Cond := lw_tbl.filter goodWord
theorem GT_of {w : Cond} (h : w ∈ lw_tbl) (g : goodWord w = true) : w ∈ GT := List.mem_filter.mpr ⟨h, g⟩
theorem GT_good : ∀ w ∈ GT, (w.onTables && w.keeps) = true ∨ ∃ ty, w = .arrayClass ty := fun w h => good_of_word (List.mem_filter.mp h).2
theorem GT_in {w : Cond} (h : w ∈ GT) : w ∈ lw_tbl := (List.mem_filter.mp h).1
def MN (k : Nat) : MethodName := ⟨cn (mC.getD k 99), (mS.getD k ("", "")).1, (mS.getD k ("", "")).2⟩
def MB (k : Nat) : ByteArray := mB.getD k ⟨#[]⟩
def ML (k : Nat) : Nat := mL.getD k 0
def MR (k : Nat) : Option FieldType := mR.getD k none
def MP (k : Nat) : Nat := mP.getD k 0
def MX (k : Nat) : Bool := mX.getD k true
def wCode (k : Nat) : Cond := .code (MN k) (MB k) (ML k) (MR k)
/-- lists out of the tables -/
def tFL : List (String × Nat × String × String × String) := lw_tbl.filterMap fun c => match c with | .fieldLink a b c d e => some (a, b, c, d, e) | _ => none
def tNF : List (String × Nat × String × String × String × String) := lw_tbl.filterMap fun c => match c with | .fieldLinkNest a b c d e f => some (a, b, c, d, e, f) | _ => none
def tML : List (String × Nat × MethodName) := lw_tbl.filterMap fun c => match c with | .methodLink a b y => some (a, b, y) | _ => none
def tNM : List (String × Nat × MethodName × String) := lw_tbl.filterMap fun c => match c with | .methodLinkNest a b y h => some (a, b, y, h) | _ => none
def tCI : List (String × Nat × Int32) := lw_tbl.filterMap fun c => match c with | .constant a b y => some (a, b, y) | _ => none
def tCL : List (String × Nat × Int64) := lw_tbl.filterMap fun c => match c with | .constantLong a b y => some (a, b, y) | _ => none
def tCk : List (String × Nat × String) := lw_tbl.filterMap fun c => match c with | .classLink a b y => some (a, b, y) | _ => none
def tIM : List MethodName := lw_tbl.filterMap fun c => match c with | .instanceMethod y => some y | _ => none
def tSM : List MethodName := lw_tbl.filterMap fun c => match c with | .static y => some y | _ => none
def tSe : List (String × MethodName × MethodName) := lw_tbl.filterMap fun c => match c with | .selects a x y => some (a, x, y) | _ => none
def tIn : List String := lw_tbl.filterMap fun c => match c with | .initialized y => some y | _ => none
def tIs : List (String × Nat) := lw_tbl.filterMap fun c => match c with | .instantiable y n => some (y, n) | _ => none
def MNx (k : Nat) : MethodName := if k = 500 then ⟨"java/lang/Object", "<init>", "()V"⟩ else if k = 501 then arraycopyName else if k = 502 then Lib.Math.min.name else if k = 503 then Lib.Math.max.name else if k = 504 then Lib.Math.abs.name else MN k
theorem tFL_eq : tFL = flk.map (fun q => (cn q.1, q.2.1, (fT q.2.2.1 q.2.2.2).1, (fT q.2.2.1 q.2.2.2).2.1, (fT q.2.2.1 q.2.2.2).2.2.1)) := by decide +kernel
theorem tNF_eq : tNF = nfl.map (fun q => (cn q.1, q.2.1, (fT q.2.2.1 q.2.2.2).1, (fT q.2.2.1 q.2.2.2).2.1, (fT q.2.2.1 q.2.2.2).2.2.1, "BoxSpider")) := by decide +kernel
theorem tML_eq : tML = mlk.map (fun q => (cn q.1, q.2.1, MNx q.2.2)) := by decide +kernel
theorem tNM_eq : tNM = nml.map (fun q => (cn q.1, q.2.1, MNx q.2.2, "BoxSpider")) := by decide +kernel
theorem tCI_eq : tCI = kcI.map (fun q => (cn q.1, q.2.1, q.2.2)) := by decide +kernel
theorem tCL_eq : tCL = kcL.map (fun q => (cn q.1, q.2.1, q.2.2)) := by decide +kernel
theorem tCk_eq : tCk = kcl.map (fun q => (cn q.1, q.2.1, cn q.2.2)) := by decide +kernel
theorem fl_ok : flk.all (fun q => decide (q.2.2.1 < 11) && decide (q.2.2.2 < fN q.2.2.1)) = true := by decide +kernel
theorem nfl_ok : nfl.all (fun q => decide (q.2.2.1 < 11) && decide (q.2.2.2 < fN q.2.2.1)) = true := by decide +kernel
theorem fl_in {q : Nat × Nat × Nat × Nat} (h : q ∈ flk) : Cond.fieldLink (cn q.1) q.2.1 (fT q.2.2.1 q.2.2.2).1 (fT q.2.2.1 q.2.2.2).2.1 (fT q.2.2.1 q.2.2.2).2.2.1 ∈ GT := by
  have h1 := List.mem_map_of_mem (f := fun q : Nat × Nat × Nat × Nat => (cn q.1, q.2.1, (fT q.2.2.1 q.2.2.2).1, (fT q.2.2.1 q.2.2.2).2.1, (fT q.2.2.1 q.2.2.2).2.2.1)) h
  rw [← tFL_eq] at h1
  obtain ⟨c, hc, e⟩ := List.mem_filterMap.mp h1
  split at e
  · cases e; exact GT_of hc rfl
  · cases e
def nfW (q : Nat × Nat × Nat × Nat) : Cond := Cond.fieldLinkNest (cn q.1) q.2.1 (fT q.2.2.1 q.2.2.2).1 (fT q.2.2.1 q.2.2.2).2.1 (fT q.2.2.1 q.2.2.2).2.2.1 "BoxSpider"
theorem nfl_in {q : Nat × Nat × Nat × Nat} (h : q ∈ nfl) : nfW q ∈ lw_tbl := by
  have h1 := List.mem_map_of_mem (f := fun q : Nat × Nat × Nat × Nat => (cn q.1, q.2.1, (fT q.2.2.1 q.2.2.2).1, (fT q.2.2.1 q.2.2.2).2.1, (fT q.2.2.1 q.2.2.2).2.2.1, "BoxSpider")) h
  rw [← tNF_eq] at h1
  obtain ⟨c, hc, e⟩ := List.mem_filterMap.mp h1
  split at e
  · cases e; exact hc
  · cases e
theorem mlk_in {q : Nat × Nat × Nat} (h : q ∈ mlk) : Cond.methodLink (cn q.1) q.2.1 (MNx q.2.2) ∈ GT := by
  have h1 := List.mem_map_of_mem (f := fun q : Nat × Nat × Nat => (cn q.1, q.2.1, MNx q.2.2)) h
  rw [← tML_eq] at h1
  obtain ⟨c, hc, e⟩ := List.mem_filterMap.mp h1
  split at e
  · cases e; exact GT_of hc rfl
  · cases e
def nmW (q : Nat × Nat × Nat) : Cond := Cond.methodLinkNest (cn q.1) q.2.1 (MNx q.2.2) "BoxSpider"
theorem nml_in {q : Nat × Nat × Nat} (h : q ∈ nml) : nmW q ∈ lw_tbl := by
  have h1 := List.mem_map_of_mem (f := fun q : Nat × Nat × Nat => (cn q.1, q.2.1, MNx q.2.2, "BoxSpider")) h
  rw [← tNM_eq] at h1
  obtain ⟨c, hc, e⟩ := List.mem_filterMap.mp h1
  split at e
  · cases e; exact hc
  · cases e
theorem kcI_in {q : Nat × Nat × Int32} (h : q ∈ kcI) : Cond.constant (cn q.1) q.2.1 q.2.2 ∈ GT := by
  have h1 := List.mem_map_of_mem (f := fun q : Nat × Nat × Int32 => (cn q.1, q.2.1, q.2.2)) h
  rw [← tCI_eq] at h1
  obtain ⟨c, hc, e⟩ := List.mem_filterMap.mp h1
  split at e
  · cases e; exact GT_of hc rfl
  · cases e
theorem kcL_in {q : Nat × Nat × Int64} (h : q ∈ kcL) : Cond.constantLong (cn q.1) q.2.1 q.2.2 ∈ GT := by
  have h1 := List.mem_map_of_mem (f := fun q : Nat × Nat × Int64 => (cn q.1, q.2.1, q.2.2)) h
  rw [← tCL_eq] at h1
  obtain ⟨c, hc, e⟩ := List.mem_filterMap.mp h1
  split at e
  · cases e; exact GT_of hc rfl
  · cases e
theorem kcl_in {q : Nat × Nat × Nat} (h : q ∈ kcl) : Cond.classLink (cn q.1) q.2.1 (cn q.2.2) ∈ GT := by
  have h1 := List.mem_map_of_mem (f := fun q : Nat × Nat × Nat => (cn q.1, q.2.1, cn q.2.2)) h
  rw [← tCk_eq] at h1
  obtain ⟨c, hc, e⟩ := List.mem_filterMap.mp h1
  split at e
  · cases e; exact GT_of hc rfl
  · cases e
theorem tIM_in {y : MethodName} (h : y ∈ tIM) : Cond.instanceMethod y ∈ GT := by
  obtain ⟨c, hc, e⟩ := List.mem_filterMap.mp h
  split at e
  · cases e; exact GT_of hc rfl
  · cases e
theorem tSM_in {y : MethodName} (h : y ∈ tSM) : Cond.static y ∈ GT := by
  obtain ⟨c, hc, e⟩ := List.mem_filterMap.mp h
  split at e
  · cases e; exact GT_of hc rfl
  · cases e
theorem tSe_in {a : String} {y : MethodName} (h : (a, y, y) ∈ tSe) : Cond.selects a y y ∈ GT := by
  obtain ⟨c, hc, e⟩ := List.mem_filterMap.mp h
  split at e
  · cases e; exact GT_of hc rfl
  · cases e
theorem tIn_in {y : String} (h : y ∈ tIn) : Cond.initialized y ∈ GT := by
  obtain ⟨c, hc, e⟩ := List.mem_filterMap.mp h
  split at e
  · cases e; exact GT_of hc rfl
  · cases e
theorem tIs_in {y : String} {n : Nat} (h : (y, n) ∈ tIs) : Cond.instantiable y n ∈ GT := by
  obtain ⟨c, hc, e⟩ := List.mem_filterMap.mp h
  split at e
  · cases e; exact GT_of hc rfl
  · cases e
set_option maxRecDepth 1000000 in
theorem codes_eq : (List.range nMeth).map wCode = cpos.filterMap (fun i => lw_tbl[i]?) := by rfl
theorem code_in {k : Nat} (h : k < nMeth) : wCode k ∈ GT := by
  have h1 : wCode k ∈ (List.range nMeth).map wCode := List.mem_map_of_mem (List.mem_range.mpr h)
  rw [codes_eq] at h1
  obtain ⟨i, -, e⟩ := List.mem_filterMap.mp h1
  exact GT_of (List.mem_of_getElem? e) rfl
theorem im_ok : (List.range nMeth).all (fun k => if MX k then decide (MN k ∈ tSM) else decide (MN k ∈ tIM)) = true := by decide +kernel
theorem se_ok : (List.range nMeth).all (fun k => MX k || (mS.getD k ("", "")).1 == "<init>" || decide (((MN k).cls, MN k, MN k) ∈ tSe)) = true := by decide +kernel
theorem in_ok : (List.range nMeth).all (fun k => decide ((MN k).cls ∈ tIn)) = true := by decide +kernel
theorem ds_ok1 : (List.range nMeth).all (fun k => decide ((parseMethodDescriptor (MN k).desc).map (fun d => d.parameters.length) = some (MP k))) = true := by decide +kernel
theorem ds_ok2 : (List.range nMeth).all (fun k => decide ((MN k).cls ≠ "java/lang/invoke/MethodHandle") && decide ((MN k).cls ≠ "java/lang/invoke/VarHandle")) = true := by decide +kernel
theorem ds_ok3 : (List.range nMeth).all (fun k => Jvm.plainName (MN k).cls) = true := by decide +kernel
theorem ds_ok4 : (List.range nMeth).all (fun k => decide (ML k ≤ 40)) = true := by decide +kernel
theorem cmin_in : Cond.code Lib.Math.min.name Lib.Math.min.code 2 (some .int) ∈ GT := GT_of (List.mem_of_getElem? (i := mpos_min) (by decide +kernel)) rfl
theorem cmax_in : Cond.code Lib.Math.max.name Lib.Math.max.code 2 (some .int) ∈ GT := GT_of (List.mem_of_getElem? (i := mpos_max) (by decide +kernel)) rfl
theorem cabs_in : Cond.code Lib.Math.abs.name Lib.Math.abs.code 1 (some .int) ∈ GT := GT_of (List.mem_of_getElem? (i := mpos_abs) (by decide +kernel)) rfl
theorem cobj_in : Cond.code Lib.objectInit ⟨#[0xb1]⟩ 1 none ∈ GT := GT_of (List.mem_of_getElem? (i := opos) (by decide +kernel)) rfl
theorem iobj_in : Cond.instanceMethod Lib.objectInit ∈ GT := tIM_in (by decide +kernel)
theorem smin_in : Cond.static Lib.Math.min.name ∈ GT := tSM_in (by decide +kernel)
theorem smax_in : Cond.static Lib.Math.max.name ∈ GT := tSM_in (by decide +kernel)
theorem sabs_in : Cond.static Lib.Math.abs.name ∈ GT := tSM_in (by decide +kernel)
theorem imath_in : Cond.initialized "java/lang/Math" ∈ GT := tIn_in (by decide +kernel)
theorem isys_in : Cond.initialized "java/lang/System" ∈ GT := tIn_in (by decide +kernel)
theorem scpy_in : Cond.static arraycopyName ∈ GT := tSM_in (by decide +kernel)
theorem ncpy_in : Cond.native arraycopyName ∈ GT := GT_of (by decide +kernel) (by decide +kernel)
theorem aint_in : Cond.arrayClass .int ∈ GT := GT_of (by decide +kernel) rfl
set_option maxRecDepth 1000000 in
/-- what is known of each class -/
theorem cls_ws : ∀ ci, ci < 11 → vwCl[ci]? = some (cn ci, fT ci, fN ci) ∧ Cond.initialized (cn ci) ∈ GT ∧ Cond.instantiable (cn ci) (fN ci) ∈ GT ∧ (∀ w ∈ u_ws (cn ci) (fT ci) (fN ci), w ∈ GT) := by
  have h : ∀ ci, ci < 11 → (cn ci ∈ tIn ∧ (cn ci, fN ci) ∈ tIs ∧ (u_ws (cn ci) (fT ci) (fN ci)).all (fun w => decide (w ∈ lw_tbl) && goodWord w) = true) := by decide +kernel
  intro ci hi
  obtain ⟨h1, h2, h3⟩ := h ci hi
  refine ⟨?_, tIn_in h1, tIs_in h2, fun w hw => ?_⟩
  · match ci, hi with
    | 0, _ => rfl
    | 1, _ => rfl
    | 2, _ => rfl
    | 3, _ => rfl
    | 4, _ => rfl
    | 5, _ => rfl
    | 6, _ => rfl
    | 7, _ => rfl
    | 8, _ => rfl
    | 9, _ => rfl
    | 10, _ => rfl
  · have h4 := List.all_eq_true.mp h3 w hw
    simp only [Bool.and_eq_true, decide_eq_true_eq] at h4
    exact GT_of h4.1 h4.2
def fty (ci k : Nat) : FieldType := (parseFieldDescriptor (fT ci k).2.2.1).getD .int
theorem fty_ok : ∀ ci, ci < 11 → ∀ k, k < fN ci → parseFieldDescriptor (fT ci k).2.2.1 = some (fty ci k) := by decide +kernel
theorem fnm_ok : ∀ ci, ci < 11 → ∀ a, a < fN ci → ∀ b, b < fN ci → a ≠ b → (fT ci a).2.1 ≠ (fT ci b).2.1 := by decide +kernel
def ftk (t : FieldType) : Bool := match t with
  | .int => true
  | _ => false
def ftr (t : FieldType) : Bool := match t with
  | .object _ => true
  | .array _ => true
  | _ => false
theorem fI_ok : ∀ ci, ci < 11 → ∀ k, k < fN ci → (if fI ci k then ftk (fty ci k) else ftr (fty ci k)) = true := by decide +kernel
theorem dfl_ok : ∀ ci, ci < 11 → (dfl ci).length = fN ci ∧ ∀ j, j < fN ci → defaultValue (fty ci j) = vp_V (dfl ci) j := by decide +kernel
end
section
/-! THE SMALL MACHINE: an interpreter of the resolved program over a heap of numbered cells. A ref is a cell's number; 999999 is the law's script. -/
abbrev LSt : Type := List (Nat × Value)
abbrev HS : Type := (Nat → va_E) × Nat × Nat
def lget : LSt → Nat → Option Value
  | [], _ => none
  | (j, v) :: r, i => if j = i then some v else lget r i
def lput1 (ls : LSt) (i : Nat) (v : Value) : LSt := (i, v) :: ls.filter (fun q => !(q.1 == i) && !(q.1 + 1 == i && q.2.category == 2))
def lput2 (ls : LSt) (i : Nat) (v : Value) : LSt := (i, v) :: ls.filter (fun q => !(q.1 == i) && (!(q.1 == i + 1) && !(q.1 + 1 == i && q.2.category == 2)))
def vok (ci k : Nat) (v : Value) : Bool := match v with
  | .int _ => fI ci k
  | .ref _ => !fI ci k
  | _ => false
def inb (i : Int32) (n : Nat) : Bool := decide (0 ≤ i.toInt) && decide (i.toInt < n)
def kIv (j : Nat) : Int32 := (kcI.getD j (0, 0, 0)).2.2
def kLv (j : Nat) : Int64 := (kcL.getD j (0, 0, 0)).2.2
/-- one step that isn't a jump, a return or a call -/
def stp (scr : Option (Nat × (Nat → Int32))) (i : Instr) (nL : Nat) (ls : LSt) (st : List Value) (h : HS) : Option (LSt × List Value × HS) :=
  match i with
  | .iconst n => some (ls, .int (Int32.ofInt n) :: st, h)
  | .lconst n => some (ls, .long (Int64.ofNat (n : Nat)) :: st, h)
  | .ldc j => some (ls, .int (kIv j) :: st, h)
  | .ldc2_w j => some (ls, .long (kLv j) :: st, h)
  | .iload k => match lget ls k with
    | some (.int v) => some (ls, .int v :: st, h)
    | _ => none
  | .lload k => match lget ls k with
    | some (.long v) => some (ls, .long v :: st, h)
    | _ => none
  | .aload k => match lget ls k with
    | some (.ref v) => some (ls, .ref v :: st, h)
    | _ => none
  | .istore k => match st with
    | .int v :: st => if k < nL then some (lput1 ls k (.int v), st, h) else none
    | _ => none
  | .astore k => match st with
    | .ref v :: st => if k < nL then some (lput1 ls k (.ref v), st, h) else none
    | _ => none
  | .lstore k => match st with
    | .long v :: st => if k + 1 < nL then some (lput2 ls k (.long v), st, h) else none
    | _ => none
  | .iinc k n => match lget ls k with
    | some (.int v) => if k < nL then some (lput1 ls k (.int (v + Int32.ofInt n)), st, h) else none
    | _ => none
  | .iadd => match st with
    | .int y :: .int x :: st => some (ls, .int (x + y) :: st, h)
    | _ => none
  | .isub => match st with
    | .int y :: .int x :: st => some (ls, .int (x - y) :: st, h)
    | _ => none
  | .imul => match st with
    | .int y :: .int x :: st => some (ls, .int (x * y) :: st, h)
    | _ => none
  | .iand => match st with
    | .int y :: .int x :: st => some (ls, .int (x &&& y) :: st, h)
    | _ => none
  | .ior => match st with
    | .int y :: .int x :: st => some (ls, .int (x ||| y) :: st, h)
    | _ => none
  | .ixor => match st with
    | .int y :: .int x :: st => some (ls, .int (x ^^^ y) :: st, h)
    | _ => none
  | .idiv => match st with
    | .int y :: .int x :: st => if y = 0 then none else some (ls, .int (x / y) :: st, h)
    | _ => none
  | .irem => match st with
    | .int y :: .int x :: st => if y = 0 then none else some (ls, .int (x - x / y * y) :: st, h)
    | _ => none
  | .ineg => match st with
    | .int x :: st => some (ls, .int (-x) :: st, h)
    | _ => none
  | .ishl => match st with
    | .int y :: .int x :: st => some (ls, .int (x <<< (y &&& 31)) :: st, h)
    | _ => none
  | .ishr => match st with
    | .int y :: .int x :: st => some (ls, .int (x >>> (y &&& 31)) :: st, h)
    | _ => none
  | .iushr => match st with
    | .int y :: .int x :: st => some (ls, .int (x.toUInt32 >>> (y.toUInt32 &&& Int32.toUInt32 31)).toInt32 :: st, h)
    | _ => none
  | .i2l => match st with
    | .int x :: st => some (ls, .long x.toInt64 :: st, h)
    | _ => none
  | .i2b => match st with
    | .int x :: st => some (ls, .int x.toInt8.toInt32 :: st, h)
    | _ => none
  | .i2s => match st with
    | .int x :: st => some (ls, .int x.toInt16.toInt32 :: st, h)
    | _ => none
  | .ladd => match st with
    | .long y :: .long x :: st => some (ls, .long (x + y) :: st, h)
    | _ => none
  | .lmul => match st with
    | .long y :: .long x :: st => some (ls, .long (x * y) :: st, h)
    | _ => none
  | .lcmp => match st with
    | .long y :: .long x :: st => some (ls, .int (lg_cmp x y) :: st, h)
    | _ => none
  | .dup => match st with
    | .int x :: st => some (ls, .int x :: .int x :: st, h)
    | .ref x :: st => some (ls, .ref x :: .ref x :: st, h)
    | _ => none
  | .pop => match st with
    | .int _ :: st => some (ls, st, h)
    | _ => none
  | .dup2 => match st with
    | .int y :: .ref x :: st => some (ls, .int y :: .ref x :: .int y :: .ref x :: st, h)
    | _ => none
  | .getfield e => match st with
    | .ref a :: st => match decide (a < h.2.1), h.1 a with
      | true, .inr (ci, fs) => if ci = e / 100 % 100 then match fs[e % 100]? with
          | some v => some (ls, v :: st, h)
          | none => none
        else none
      | _, _ => none
    | _ => none
  | .putfield e => match st with
    | v :: .ref a :: st => match decide (a < h.2.1), h.1 a with
      | true, .inr (ci, fs) => if ci = e / 100 % 100 ∧ e % 100 < fs.length ∧ vok ci (e % 100) v = true then some (ls, st, va_up h.1 a (.inr (ci, fs.set (e % 100) v)), h.2) else none
      | _, _ => none
    | _ => none
  | .iaload => match st with
    | .int j :: .ref a :: st => if a = 999999 then match scr with
        | some (n, f) => if inb j n = true then some (ls, .int (f j.toNatClampNeg) :: st, h) else none
        | none => none
      else match decide (a < h.2.1), h.1 a with
      | true, .inl (0, n, .inl f) => if inb j n = true then some (ls, .int (f j.toNatClampNeg) :: st, h) else none
      | _, _ => none
    | _ => none
  | .iastore => match st with
    | .int x :: .int j :: .ref a :: st => match decide (a < h.2.1), h.1 a with
      | true, .inl (0, n, .inl f) => if inb j n = true then some (ls, st, va_up h.1 a (.inl (0, n, .inl (upd f j.toNatClampNeg x))), h.2) else none
      | _, _ => none
    | _ => none
  | .aaload => match st with
    | .int j :: .ref a :: st => match decide (a < h.2.1), h.1 a with
      | true, .inl (t, n, .inr (.inr (.inr (.inr f)))) => if inb j n = true ∧ (t = 1 ∨ t = 2) then match f j.toNatClampNeg with
          | some b => some (ls, .ref b :: st, h)
          | none => none
        else none
      | _, _ => none
    | _ => none
  | .aastore => match st with
    | .ref b :: .int j :: .ref a :: st => match decide (a < h.2.1), h.1 a, decide (b < h.2.1), h.1 b with
      | true, .inl (t, n, .inr (.inr (.inr (.inr f)))), true, .inr (ci, _) => if inb j n = true ∧ ((t = 1 ∧ ci = 6) ∨ (t = 2 ∧ ci = 4)) then some (ls, st, va_up h.1 a (.inl (t, n, .inr (.inr (.inr (.inr (va_up f j.toNatClampNeg (some b))))))), h.2) else none
      | _, _, _, _ => none
    | _ => none
  | .arraylength => match st with
    | .ref a :: st => if a = 999999 then match scr with
        | some (n, _) => some (ls, .int (Int32.ofNat n) :: st, h)
        | none => none
      else none
    | _ => none
  | .new e => if h.2.1 < 999999 then some (ls, .ref h.2.1 :: st, va_up h.1 h.2.1 (.inr (e % 100, dfl (e % 100))), h.2.1 + 1, h.2.2 + fN (e % 100)) else none
  | .newarray .int => match st with
    | .int n :: st => if inb n 100000 = true ∧ h.2.1 < 999999 then some (ls, .ref h.2.1 :: st, va_up h.1 h.2.1 (.inl (0, n.toNatClampNeg, .inl (fun _ => 0))), h.2.1 + 1, h.2.2 + n.toNatClampNeg) else none
    | _ => none
  | .anewarray e => match st with
    | .int n :: st => if inb n 100000 = true ∧ h.2.1 < 999999 then some (ls, .ref h.2.1 :: st, va_up h.1 h.2.1 (.inl (if e % 100 = 6 then 1 else 2, n.toNatClampNeg, .inr (.inr (.inr (.inr (fun _ => none)))))), h.2.1 + 1, h.2.2 + n.toNatClampNeg) else none
    | _ => none
  | _ => none
/-- the calls of the machine's own -/
def own5 (k : Nat) (st : List Value) (h : HS) : Option (List Value × HS) :=
  if k = 500 then match st with
    | .ref _ :: st => if (st.map fun v => v.category).sum ≤ 8 then some (st, h) else none
    | _ => none
  else if k = 501 then match st with
    | .int n :: .int dp :: .ref b :: .int sp :: .ref a :: st => match decide (a < h.2.1), h.1 a, decide (b < h.2.1), h.1 b with
      | true, .inl (0, n0, .inl f), true, .inl (0, n1, .inl g) => if 0 ≤ sp.toInt ∧ 0 ≤ dp.toInt ∧ 0 ≤ n.toInt ∧ sp.toInt + n.toInt ≤ n0 ∧ dp.toInt + n.toInt ≤ n1 ∧ (st.map fun v => v.category).sum ≤ 8 then some (st, va_up h.1 b (.inl (0, n1, .inl (va_cpy f g sp.toNatClampNeg dp.toNatClampNeg n.toNatClampNeg))), h.2) else none
      | _, _, _, _ => none
    | _ => none
  else if k = 502 then match st with
    | .int y :: .int x :: st => if (st.map fun v => v.category).sum ≤ 8 then some (.int (if y < x then y else x) :: st, h) else none
    | _ => none
  else if k = 503 then match st with
    | .int y :: .int x :: st => if (st.map fun v => v.category).sum ≤ 8 then some (.int (if x < y then y else x) :: st, h) else none
    | _ => none
  else if k = 504 then match st with
    | .int x :: st => if (st.map fun v => v.category).sum ≤ 8 then some (.int (if 0 ≤ x then x else 0 - x) :: st, h) else none
    | _ => none
  else none
def cnd (c : ClassFile.Cond) (x y : Int32) : Bool := match c with
  | .eq => decide (x = y)
  | .ne => decide (¬ x = y)
  | .lt => decide (x < y)
  | .ge => decide (y ≤ x)
  | .gt => decide (y < x)
  | .le => decide (x ≤ y)
def lkp (ps : List (Nat × Instr × Nat)) (pc : Nat) : Option (Instr × Nat) := match ps with
  | [] => none
  | (q, i, n) :: r => bif Nat.beq q pc then some (i, n) else lkp r pc
def ins (m pc : Nat) : Option (Instr × Nat) := lkp (prL.getD m []) pc
def swl (ps : List (Int × Int)) (d : Int) (x : Int) : Int := match ps with
  | [] => d
  | (a, t) :: r => if a = x then t else swl r d x
/-- the receiver is an object of the method's class -/
def rcv (k : Nat) (as : List Value) (h : HS) : Bool := match as with
  | .ref a :: _ => decide (a < h.2.1) && (match h.1 a with
    | .inr (ci, _) => decide (ci = mC.getD k 99)
    | _ => false)
  | _ => false
def retZ (m : Nat) (v : Int32) : Bool := match MR m with
  | some .boolean => decide (v = 0) || decide (v = 1)
  | some .int => true
  | _ => false
def run : Nat → Nat → Option (Nat × (Nat → Int32)) → Nat → Nat → LSt → List Value → HS → Option (Option Value × HS)
  | 0, _, _, _, _, _, _, _ => none
  | f + 1, d, scr, m, pc, ls, st, h => match ins m pc with
    | none => none
    | some (i, np) =>
      let call : Nat → Nat → Bool → Option (Option Value × HS) := fun k na rc => match d with
        | 0 => none
        | d + 1 => if na ≤ st.length ∧ k < nMeth ∧ ((st.drop na).map fun v => v.category).sum ≤ 8 ∧ (((st.take na).reverse).map fun v => v.category).sum ≤ ML k ∧ (rc = true → rcv k (st.take na).reverse h = true) then
            match run f d none k 0 (lv_args 0 (st.take na).reverse) [] h with
            | some (r, h') => run f (d + 1) scr m np ls (r.toList ++ st.drop na) h'
            | none => none
          else none
      match i with
      | .ireturn => match st with
        | [.int v] => if retZ m v = true then some (some (.int v), h) else none
        | _ => none
      | .lreturn => match st with
        | [.long v] => if MR m = some .long then some (some (.long v), h) else none
        | _ => none
      | .return_ => match st with
        | [] => if MR m = none then some (none, h) else none
        | _ => none
      | .goto t => run f d scr m t.toNat ls st h
      | .ifCond c t => match st with
        | .int x :: st => if cnd c x 0 = true then run f d scr m t.toNat ls st h else run f d scr m np ls st h
        | _ => none
      | .if_icmp c t => match st with
        | .int y :: .int x :: st => if cnd c x y = true then run f d scr m t.toNat ls st h else run f d scr m np ls st h
        | _ => none
      | .tableswitch df lo hi os => match st with
        | .int x :: st => if x.toInt < lo ∨ hi < x.toInt then run f d scr m df.toNat ls st h else match os.toList[(x.toInt - lo).toNat]? with
          | some t => run f d scr m t.toNat ls st h
          | none => none
        | _ => none
      | .lookupswitch df ps => match st with
        | .int x :: st => run f d scr m (swl ps.toList df x.toInt).toNat ls st h
        | _ => none
      | .invokevirtual e => call (e % 1000) (MP (e % 1000) + 1) true
      | .invokespecial e => if e % 1000 < 500 then call (e % 1000) (MP (e % 1000) + 1) true else if d = 0 then none else match own5 (e % 1000) st h with
        | some (st', h') => run f d scr m np ls st' h'
        | none => none
      | .invokestatic e => if e % 1000 < 500 then call (e % 1000) (MP (e % 1000)) false else if d = 0 then none else match own5 (e % 1000) st h with
        | some (st', h') => run f d scr m np ls st' h'
        | none => none
      | i => match stp scr i (ML m) ls st h with
        | some (ls', st', h') => run f d scr m np ls' st' h'
        | none => none
/-- how the resolved program stands to the bytes -/
def ckF (o x e : Nat) : Bool := if e / 10000000 = 0 then decide (flk[e / 10000 % 1000]? = some (o, x, e / 100 % 100, e % 100)) else decide (nfl[e / 10000 % 1000]? = some (o, x, e / 100 % 100, e % 100))
def ckM (o x e : Nat) : Bool := if e / 1000000 = 0 then decide (mlk[e / 1000 % 1000]? = some (o, x, e % 1000)) else decide (nml[e / 1000 % 1000]? = some (o, x, e % 1000))
def isInit (k : Nat) : Bool := (mS.getD k ("", "")).1 == "<init>"
def chk (m pc : Nat) (o r : Instr) : Bool := match o, r with
  | .iconst a, .iconst b => decide (a = b)
  | .bipush a, .iconst b => decide ((Int8.ofInt a).toInt32 = Int32.ofInt b)
  | .sipush a, .iconst b => decide ((Int16.ofInt a).toInt32 = Int32.ofInt b)
  | .lconst a, .lconst b => decide (a = b)
  | .ldc x, .ldc j => decide ((kcI[j]?).map (fun q => (q.1, q.2.1)) = some (mC.getD m 99, x))
  | .ldc_w x, .ldc j => decide ((kcI[j]?).map (fun q => (q.1, q.2.1)) = some (mC.getD m 99, x))
  | .ldc2_w x, .ldc2_w j => decide ((kcL[j]?).map (fun q => (q.1, q.2.1)) = some (mC.getD m 99, x))
  | .iload a, .iload b => decide (a = b)
  | .iload_n a, .iload b => decide ((a : Nat) = b)
  | .lload a, .lload b => decide (a = b)
  | .lload_n a, .lload b => decide ((a : Nat) = b)
  | .aload a, .aload b => decide (a = b)
  | .aload_n a, .aload b => decide ((a : Nat) = b)
  | .istore a, .istore b => decide (a = b)
  | .istore_n a, .istore b => decide ((a : Nat) = b)
  | .lstore a, .lstore b => decide (a = b)
  | .lstore_n a, .lstore b => decide ((a : Nat) = b)
  | .astore a, .astore b => decide (a = b)
  | .astore_n a, .astore b => decide ((a : Nat) = b)
  | .iinc a x, .iinc b y => decide (a = b) && decide (x = y)
  | .iadd, .iadd => true
  | .isub, .isub => true
  | .imul, .imul => true
  | .iand, .iand => true
  | .ior, .ior => true
  | .ixor, .ixor => true
  | .idiv, .idiv => true
  | .irem, .irem => true
  | .ineg, .ineg => true
  | .ishl, .ishl => true
  | .ishr, .ishr => true
  | .iushr, .iushr => true
  | .i2l, .i2l => true
  | .i2b, .i2b => true
  | .i2s, .i2s => true
  | .ladd, .ladd => true
  | .lmul, .lmul => true
  | .lcmp, .lcmp => true
  | .dup, .dup => true
  | .pop, .pop => true
  | .dup2, .dup2 => true
  | .getfield x, .getfield e => ckF (mC.getD m 99) x e
  | .putfield x, .putfield e => ckF (mC.getD m 99) x e && (!(fT (e / 100 % 100) (e % 100)).2.2.2 || (isInit m && decide (e / 10000000 = 0) && decide ((fT (e / 100 % 100) (e % 100)).1 = cn (mC.getD m 99))))
  | .iaload, .iaload => true
  | .iastore, .iastore => true
  | .aaload, .aaload => true
  | .aastore, .aastore => true
  | .arraylength, .arraylength => true
  | .new x, .new e => decide (kcl[e / 100]? = some (mC.getD m 99, x, e % 100)) && decide (e % 100 < 11)
  | .newarray .int, .newarray .int => true
  | .anewarray x, .anewarray e => decide (kcl[e / 100]? = some (mC.getD m 99, x, e % 100)) && (decide (e % 100 = 6) || decide (e % 100 = 4))
  | .ireturn, .ireturn => true
  | .lreturn, .lreturn => true
  | .return_, .return_ => true
  | .goto a, .goto t => decide ((pc : Int) + a = t) && decide (0 ≤ t)
  | .ifCond c a, .ifCond c' t => decide (c = c') && decide ((pc : Int) + a = t) && decide (0 ≤ t)
  | .if_icmp c a, .if_icmp c' t => decide (c = c') && decide ((pc : Int) + a = t) && decide (0 ≤ t)
  | .tableswitch a lo hi os, .tableswitch t lo' hi' ts => decide (lo = lo') && decide (hi = hi') && decide ((pc : Int) + a = t) && decide (0 ≤ t) && decide (os.toList.map (fun o => (pc : Int) + o) = ts.toList) && ts.toList.all (fun t => decide (0 ≤ t))
  | .lookupswitch a ps, .lookupswitch t qs => decide ((pc : Int) + a = t) && decide (0 ≤ t) && decide (ps.toList.map (fun q => (q.1, (pc : Int) + q.2)) = qs.toList) && qs.toList.all (fun q => decide (0 ≤ q.2)) && (ps.toList.zip (ps.toList.drop 1)).all (fun (a, next) => a.1 < next.1)
  | .invokevirtual x, .invokevirtual e => ckM (mC.getD m 99) x e && !MX (e % 1000) && !isInit (e % 1000) && decide (e % 1000 < nMeth)
  | .invokespecial x, .invokespecial e => ckM (mC.getD m 99) x e && (decide (e = e % 1000000 ∧ e % 1000 = 500) || (!MX (e % 1000) && isInit (e % 1000) && decide (e % 1000 < nMeth)))
  | .invokestatic x, .invokestatic e => ckM (mC.getD m 99) x e && ((decide (e < 1000000) && decide (501 ≤ e % 1000)) || (MX (e % 1000) && decide (e % 1000 < nMeth)))
  | _, _ => false
def ilen : Instr → Nat
  | .bipush _ => 2
  | .iload _ => 2
  | .lload _ => 2
  | .aload _ => 2
  | .istore _ => 2
  | .lstore _ => 2
  | .astore _ => 2
  | .ldc _ => 2
  | .newarray _ => 2
  | .sipush _ => 3
  | .ldc_w _ => 3
  | .ldc2_w _ => 3
  | .iinc _ _ => 3
  | .getfield _ => 3
  | .putfield _ => 3
  | .invokevirtual _ => 3
  | .invokespecial _ => 3
  | .invokestatic _ => 3
  | .new _ => 3
  | .anewarray _ => 3
  | .goto _ => 3
  | .ifCond _ _ => 3
  | .if_icmp _ _ => 3
  | _ => 1
def isw : Instr → Bool
  | .tableswitch _ _ _ _ => true
  | .lookupswitch _ _ => true
  | _ => false
def ckE (m : Nat) (q : Nat × Instr × Nat) : Bool := match decode (MB m) q.1 with
  | .ok (o, len) => decide (q.1 + len = q.2.2) && (isw o || decide (len = ilen o)) && chk m q.1 o q.2.1
  | .error _ => false
end
section
theorem pk_0 : (prL.getD 0 []).all (ckE 0) = true := by decide +kernel
theorem pk_1 : (prL.getD 1 []).all (ckE 1) = true := by decide +kernel
theorem pk_2 : (prL.getD 2 []).all (ckE 2) = true := by decide +kernel
theorem pk_3 : (prL.getD 3 []).all (ckE 3) = true := by decide +kernel
theorem pk_4 : (prL.getD 4 []).all (ckE 4) = true := by decide +kernel
theorem pk_5 : (prL.getD 5 []).all (ckE 5) = true := by decide +kernel
theorem pk_6 : (prL.getD 6 []).all (ckE 6) = true := by decide +kernel
theorem pk_7 : (prL.getD 7 []).all (ckE 7) = true := by decide +kernel
theorem pk_8 : (prL.getD 8 []).all (ckE 8) = true := by decide +kernel
theorem pk_9 : (prL.getD 9 []).all (ckE 9) = true := by decide +kernel
theorem pk_10 : (prL.getD 10 []).all (ckE 10) = true := by decide +kernel
theorem pk_11 : (prL.getD 11 []).all (ckE 11) = true := by decide +kernel
theorem pk_12 : (prL.getD 12 []).all (ckE 12) = true := by decide +kernel
theorem pk_13 : (prL.getD 13 []).all (ckE 13) = true := by decide +kernel
theorem pk_14 : (prL.getD 14 []).all (ckE 14) = true := by decide +kernel
theorem pk_15 : (prL.getD 15 []).all (ckE 15) = true := by decide +kernel
theorem pk_16 : (prL.getD 16 []).all (ckE 16) = true := by decide +kernel
theorem pk_17 : (prL.getD 17 []).all (ckE 17) = true := by decide +kernel
theorem pk_18 : (prL.getD 18 []).all (ckE 18) = true := by decide +kernel
theorem pk_19 : (prL.getD 19 []).all (ckE 19) = true := by decide +kernel
theorem pk_20 : (prL.getD 20 []).all (ckE 20) = true := by decide +kernel
theorem pk_21 : (prL.getD 21 []).all (ckE 21) = true := by decide +kernel
theorem pk_22 : (prL.getD 22 []).all (ckE 22) = true := by decide +kernel
theorem pk_23 : (prL.getD 23 []).all (ckE 23) = true := by decide +kernel
theorem pk_24 : (prL.getD 24 []).all (ckE 24) = true := by decide +kernel
theorem pk_25 : (prL.getD 25 []).all (ckE 25) = true := by decide +kernel
theorem pk_26 : (prL.getD 26 []).all (ckE 26) = true := by decide +kernel
theorem pk_27 : (prL.getD 27 []).all (ckE 27) = true := by decide +kernel
theorem pk_28 : (prL.getD 28 []).all (ckE 28) = true := by decide +kernel
theorem pk_29 : (prL.getD 29 []).all (ckE 29) = true := by decide +kernel
theorem pk_30 : (prL.getD 30 []).all (ckE 30) = true := by decide +kernel
theorem pk_31 : (prL.getD 31 []).all (ckE 31) = true := by decide +kernel
theorem pk_32 : (prL.getD 32 []).all (ckE 32) = true := by decide +kernel
theorem pk_33 : (prL.getD 33 []).all (ckE 33) = true := by decide +kernel
theorem pk_34 : (prL.getD 34 []).all (ckE 34) = true := by decide +kernel
theorem pk_35 : (prL.getD 35 []).all (ckE 35) = true := by decide +kernel
theorem pk_36 : (prL.getD 36 []).all (ckE 36) = true := by decide +kernel
theorem pk_37 : (prL.getD 37 []).all (ckE 37) = true := by decide +kernel
theorem pk_38 : (prL.getD 38 []).all (ckE 38) = true := by decide +kernel
theorem pk_39 : (prL.getD 39 []).all (ckE 39) = true := by decide +kernel
theorem pk_40 : (prL.getD 40 []).all (ckE 40) = true := by decide +kernel
theorem pk_41 : (prL.getD 41 []).all (ckE 41) = true := by decide +kernel
theorem pk_42 : (prL.getD 42 []).all (ckE 42) = true := by decide +kernel
theorem pk_43 : (prL.getD 43 []).all (ckE 43) = true := by decide +kernel
theorem pk_44 : (prL.getD 44 []).all (ckE 44) = true := by decide +kernel
theorem pk_45 : (prL.getD 45 []).all (ckE 45) = true := by decide +kernel
theorem pk_46 : (prL.getD 46 []).all (ckE 46) = true := by decide +kernel
theorem pk_47 : (prL.getD 47 []).all (ckE 47) = true := by decide +kernel
theorem pk_48 : (prL.getD 48 []).all (ckE 48) = true := by decide +kernel
theorem pk_49 : (prL.getD 49 []).all (ckE 49) = true := by decide +kernel
theorem pk_50 : (prL.getD 50 []).all (ckE 50) = true := by decide +kernel
theorem pk_51 : (prL.getD 51 []).all (ckE 51) = true := by decide +kernel
theorem pk_52 : (prL.getD 52 []).all (ckE 52) = true := by decide +kernel
theorem pk_53 : (prL.getD 53 []).all (ckE 53) = true := by decide +kernel
theorem pk_54 : (prL.getD 54 []).all (ckE 54) = true := by decide +kernel
theorem pk_55 : (prL.getD 55 []).all (ckE 55) = true := by decide +kernel
theorem pk_56 : (prL.getD 56 []).all (ckE 56) = true := by decide +kernel
theorem pk_57 : (prL.getD 57 []).all (ckE 57) = true := by decide +kernel
theorem pk_58 : (prL.getD 58 []).all (ckE 58) = true := by decide +kernel
theorem pk_59 : (prL.getD 59 []).all (ckE 59) = true := by decide +kernel
theorem pk_60 : (prL.getD 60 []).all (ckE 60) = true := by decide +kernel
theorem pk_61 : (prL.getD 61 []).all (ckE 61) = true := by decide +kernel
theorem pk_62 : (prL.getD 62 []).all (ckE 62) = true := by decide +kernel
theorem pk_63 : (prL.getD 63 []).all (ckE 63) = true := by decide +kernel
theorem pk_64 : (prL.getD 64 []).all (ckE 64) = true := by decide +kernel
theorem pk_65 : (prL.getD 65 []).all (ckE 65) = true := by decide +kernel
theorem pk_66 : (prL.getD 66 []).all (ckE 66) = true := by decide +kernel
theorem pk_67 : (prL.getD 67 []).all (ckE 67) = true := by decide +kernel
theorem pk_68 : (prL.getD 68 []).all (ckE 68) = true := by decide +kernel
theorem pk_69 : (prL.getD 69 []).all (ckE 69) = true := by decide +kernel
theorem pk_70 : (prL.getD 70 []).all (ckE 70) = true := by decide +kernel
theorem pk_71 : (prL.getD 71 []).all (ckE 71) = true := by decide +kernel
theorem pk_72 : (prL.getD 72 []).all (ckE 72) = true := by decide +kernel
theorem pk_73 : (prL.getD 73 []).all (ckE 73) = true := by decide +kernel
theorem pk_74 : (prL.getD 74 []).all (ckE 74) = true := by decide +kernel
theorem pk_75 : (prL.getD 75 []).all (ckE 75) = true := by decide +kernel
theorem pk_76 : (prL.getD 76 []).all (ckE 76) = true := by decide +kernel
theorem pk_77 : (prL.getD 77 []).all (ckE 77) = true := by decide +kernel
theorem pk_78 : (prL.getD 78 []).all (ckE 78) = true := by decide +kernel
theorem pk_79 : (prL.getD 79 []).all (ckE 79) = true := by decide +kernel
theorem pk_80 : (prL.getD 80 []).all (ckE 80) = true := by decide +kernel
theorem pk_81 : (prL.getD 81 []).all (ckE 81) = true := by decide +kernel
theorem pk_82 : (prL.getD 82 []).all (ckE 82) = true := by decide +kernel
theorem pk_83 : (prL.getD 83 []).all (ckE 83) = true := by decide +kernel
theorem pk_84 : (prL.getD 84 []).all (ckE 84) = true := by decide +kernel
theorem pk_85 : (prL.getD 85 []).all (ckE 85) = true := by decide +kernel
theorem pk_86 : (prL.getD 86 []).all (ckE 86) = true := by decide +kernel
theorem pk_87 : (prL.getD 87 []).all (ckE 87) = true := by decide +kernel
theorem pk_88 : (prL.getD 88 []).all (ckE 88) = true := by decide +kernel
theorem pk_89 : (prL.getD 89 []).all (ckE 89) = true := by decide +kernel
theorem pk_90 : (prL.getD 90 []).all (ckE 90) = true := by decide +kernel
theorem pk_91 : (prL.getD 91 []).all (ckE 91) = true := by decide +kernel
theorem pk_92 : (prL.getD 92 []).all (ckE 92) = true := by decide +kernel
theorem pk_93 : (prL.getD 93 []).all (ckE 93) = true := by decide +kernel
theorem pk_94 : (prL.getD 94 []).all (ckE 94) = true := by decide +kernel
theorem pk_95 : (prL.getD 95 []).all (ckE 95) = true := by decide +kernel
theorem pk_96 : (prL.getD 96 []).all (ckE 96) = true := by decide +kernel
theorem pk_97 : (prL.getD 97 []).all (ckE 97) = true := by decide +kernel
theorem pk_98 : (prL.getD 98 []).all (ckE 98) = true := by decide +kernel
theorem pk_99 : (prL.getD 99 []).all (ckE 99) = true := by decide +kernel
theorem pk_100 : (prL.getD 100 []).all (ckE 100) = true := by decide +kernel
theorem pk_101 : (prL.getD 101 []).all (ckE 101) = true := by decide +kernel
theorem pk_102 : (prL.getD 102 []).all (ckE 102) = true := by decide +kernel
theorem pk_103 : (prL.getD 103 []).all (ckE 103) = true := by decide +kernel
theorem pk_104 : (prL.getD 104 []).all (ckE 104) = true := by decide +kernel
theorem pk_105 : (prL.getD 105 []).all (ckE 105) = true := by decide +kernel
theorem pk_106 : (prL.getD 106 []).all (ckE 106) = true := by decide +kernel
theorem pk_107 : (prL.getD 107 []).all (ckE 107) = true := by decide +kernel
theorem pk_108 : (prL.getD 108 []).all (ckE 108) = true := by decide +kernel
theorem pk_109 : (prL.getD 109 []).all (ckE 109) = true := by decide +kernel
theorem pk_110 : (prL.getD 110 []).all (ckE 110) = true := by decide +kernel
theorem pk_111 : (prL.getD 111 []).all (ckE 111) = true := by decide +kernel
theorem pk_112 : (prL.getD 112 []).all (ckE 112) = true := by decide +kernel
theorem pk_113 : (prL.getD 113 []).all (ckE 113) = true := by decide +kernel
theorem pk_114 : (prL.getD 114 []).all (ckE 114) = true := by decide +kernel
theorem pk_115 : (prL.getD 115 []).all (ckE 115) = true := by decide +kernel
theorem pk_116 : (prL.getD 116 []).all (ckE 116) = true := by decide +kernel
theorem pk_117 : (prL.getD 117 []).all (ckE 117) = true := by decide +kernel
theorem pk_118 : (prL.getD 118 []).all (ckE 118) = true := by decide +kernel
theorem pk_119 : (prL.getD 119 []).all (ckE 119) = true := by decide +kernel
theorem pk_120 : (prL.getD 120 []).all (ckE 120) = true := by decide +kernel
theorem pk_121 : (prL.getD 121 []).all (ckE 121) = true := by decide +kernel
theorem pk_122 : (prL.getD 122 []).all (ckE 122) = true := by decide +kernel
theorem pk_123 : (prL.getD 123 []).all (ckE 123) = true := by decide +kernel
theorem pk_124 : (prL.getD 124 []).all (ckE 124) = true := by decide +kernel
theorem pk_125 : (prL.getD 125 []).all (ckE 125) = true := by decide +kernel
theorem pk_126 : (prL.getD 126 []).all (ckE 126) = true := by decide +kernel
theorem pk_127 : (prL.getD 127 []).all (ckE 127) = true := by decide +kernel
theorem pk_128 : (prL.getD 128 []).all (ckE 128) = true := by decide +kernel
theorem pk_129 : (prL.getD 129 []).all (ckE 129) = true := by decide +kernel
theorem pk_130 : (prL.getD 130 []).all (ckE 130) = true := by decide +kernel
theorem pk_131 : (prL.getD 131 []).all (ckE 131) = true := by decide +kernel
theorem pk_132 : (prL.getD 132 []).all (ckE 132) = true := by decide +kernel
theorem pk_133 : (prL.getD 133 []).all (ckE 133) = true := by decide +kernel
theorem pk_134 : (prL.getD 134 []).all (ckE 134) = true := by decide +kernel
theorem pk_135 : (prL.getD 135 []).all (ckE 135) = true := by decide +kernel
theorem pk_136 : (prL.getD 136 []).all (ckE 136) = true := by decide +kernel
theorem pk_137 : (prL.getD 137 []).all (ckE 137) = true := by decide +kernel
theorem pk_138 : (prL.getD 138 []).all (ckE 138) = true := by decide +kernel
theorem pk_139 : (prL.getD 139 []).all (ckE 139) = true := by decide +kernel
theorem pk_140 : (prL.getD 140 []).all (ckE 140) = true := by decide +kernel
theorem pk_141 : (prL.getD 141 []).all (ckE 141) = true := by decide +kernel
theorem pk_142 : (prL.getD 142 []).all (ckE 142) = true := by decide +kernel
theorem pk_143 : (prL.getD 143 []).all (ckE 143) = true := by decide +kernel
theorem pk_144 : (prL.getD 144 []).all (ckE 144) = true := by decide +kernel
theorem pk_145 : (prL.getD 145 []).all (ckE 145) = true := by decide +kernel
theorem pk_146 : (prL.getD 146 []).all (ckE 146) = true := by decide +kernel
theorem pk_147 : (prL.getD 147 []).all (ckE 147) = true := by decide +kernel
theorem pk_148 : (prL.getD 148 []).all (ckE 148) = true := by decide +kernel
theorem pk_149 : (prL.getD 149 []).all (ckE 149) = true := by decide +kernel
theorem pk_150 : (prL.getD 150 []).all (ckE 150) = true := by decide +kernel
theorem pk_151 : (prL.getD 151 []).all (ckE 151) = true := by decide +kernel
theorem pk_152 : (prL.getD 152 []).all (ckE 152) = true := by decide +kernel
theorem pk_153 : (prL.getD 153 []).all (ckE 153) = true := by decide +kernel
theorem pk_154 : (prL.getD 154 []).all (ckE 154) = true := by decide +kernel
theorem pk_155 : (prL.getD 155 []).all (ckE 155) = true := by decide +kernel
theorem pk_156 : (prL.getD 156 []).all (ckE 156) = true := by decide +kernel
theorem pk_157 : (prL.getD 157 []).all (ckE 157) = true := by decide +kernel
theorem pk_158 : (prL.getD 158 []).all (ckE 158) = true := by decide +kernel
theorem pk_159 : (prL.getD 159 []).all (ckE 159) = true := by decide +kernel
theorem pk_160 : (prL.getD 160 []).all (ckE 160) = true := by decide +kernel
theorem pk_161 : (prL.getD 161 []).all (ckE 161) = true := by decide +kernel
theorem pk_162 : (prL.getD 162 []).all (ckE 162) = true := by decide +kernel
theorem pk_163 : (prL.getD 163 []).all (ckE 163) = true := by decide +kernel
theorem pk_164 : (prL.getD 164 []).all (ckE 164) = true := by decide +kernel
theorem pk_165 : (prL.getD 165 []).all (ckE 165) = true := by decide +kernel
theorem pk_166 : (prL.getD 166 []).all (ckE 166) = true := by decide +kernel
theorem pk_167 : (prL.getD 167 []).all (ckE 167) = true := by decide +kernel
theorem pk_168 : (prL.getD 168 []).all (ckE 168) = true := by decide +kernel
theorem pk_169 : (prL.getD 169 []).all (ckE 169) = true := by decide +kernel
theorem pk_170 : (prL.getD 170 []).all (ckE 170) = true := by decide +kernel
theorem pk_171 : (prL.getD 171 []).all (ckE 171) = true := by decide +kernel
theorem pk_172 : (prL.getD 172 []).all (ckE 172) = true := by decide +kernel
theorem pk_173 : (prL.getD 173 []).all (ckE 173) = true := by decide +kernel
theorem pk_174 : (prL.getD 174 []).all (ckE 174) = true := by decide +kernel
theorem pk_175 : (prL.getD 175 []).all (ckE 175) = true := by decide +kernel
theorem pk_176 : (prL.getD 176 []).all (ckE 176) = true := by decide +kernel
theorem pk_177 : (prL.getD 177 []).all (ckE 177) = true := by decide +kernel
theorem pk_178 : (prL.getD 178 []).all (ckE 178) = true := by decide +kernel
theorem pk_179 : (prL.getD 179 []).all (ckE 179) = true := by decide +kernel
theorem pk_180 : (prL.getD 180 []).all (ckE 180) = true := by decide +kernel
theorem pk_181 : (prL.getD 181 []).all (ckE 181) = true := by decide +kernel
theorem pk_182 : (prL.getD 182 []).all (ckE 182) = true := by decide +kernel
theorem pk_183_0 : ((pr_183.drop 0).take 48).all (ckE 183) = true := by decide +kernel
theorem pk_183_48 : ((pr_183.drop 48).take 48).all (ckE 183) = true := by decide +kernel
theorem pk_183_96 : ((pr_183.drop 96).take 48).all (ckE 183) = true := by decide +kernel
theorem pk_183_144 : ((pr_183.drop 144).take 48).all (ckE 183) = true := by decide +kernel
theorem pk_183_192 : ((pr_183.drop 192).take 48).all (ckE 183) = true := by decide +kernel
theorem pk_183_240 : ((pr_183.drop 240).take 48).all (ckE 183) = true := by decide +kernel
theorem pk_183_288 : ((pr_183.drop 288).take 48).all (ckE 183) = true := by decide +kernel
theorem pk_183_336 : ((pr_183.drop 336).take 48).all (ckE 183) = true := by decide +kernel
theorem pk_183_384 : ((pr_183.drop 384).take 48).all (ckE 183) = true := by decide +kernel
theorem pk_183_432 : ((pr_183.drop 432).take 48).all (ckE 183) = true := by decide +kernel
theorem pk_183_480 : ((pr_183.drop 480).take 48).all (ckE 183) = true := by decide +kernel
theorem pk_183_528 : ((pr_183.drop 528).take 48).all (ckE 183) = true := by decide +kernel
theorem pk_183_576 : ((pr_183.drop 576).take 48).all (ckE 183) = true := by decide +kernel
theorem pk_183_624 : ((pr_183.drop 624).take 48).all (ckE 183) = true := by decide +kernel
theorem pk_183_672 : ((pr_183.drop 672).take 48).all (ckE 183) = true := by decide +kernel
theorem pk_183_720 : ((pr_183.drop 720).take 48).all (ckE 183) = true := by decide +kernel
theorem pk_183_768 : ((pr_183.drop 768).take 48).all (ckE 183) = true := by decide +kernel
theorem pk_183_816 : ((pr_183.drop 816).take 48).all (ckE 183) = true := by decide +kernel
theorem pk_183_864 : ((pr_183.drop 864).take 48).all (ckE 183) = true := by decide +kernel
theorem pk_183_912 : ((pr_183.drop 912).take 2).all (ckE 183) = true := by decide +kernel
theorem pk_183_j : prL.getD 183 [] = (pr_183.drop 0).take 48 ++ ((pr_183.drop 48).take 48 ++ ((pr_183.drop 96).take 48 ++ ((pr_183.drop 144).take 48 ++ ((pr_183.drop 192).take 48 ++ ((pr_183.drop 240).take 48 ++ ((pr_183.drop 288).take 48 ++ ((pr_183.drop 336).take 48 ++ ((pr_183.drop 384).take 48 ++ ((pr_183.drop 432).take 48 ++ ((pr_183.drop 480).take 48 ++ ((pr_183.drop 528).take 48 ++ ((pr_183.drop 576).take 48 ++ ((pr_183.drop 624).take 48 ++ ((pr_183.drop 672).take 48 ++ ((pr_183.drop 720).take 48 ++ ((pr_183.drop 768).take 48 ++ ((pr_183.drop 816).take 48 ++ ((pr_183.drop 864).take 48 ++ ((pr_183.drop 912).take 2))))))))))))))))))) := by decide +kernel
theorem pk_183 : (prL.getD 183 []).all (ckE 183) = true := by
  rw [pk_183_j]
  simp only [List.all_append, Bool.and_eq_true]
  exact ⟨pk_183_0, ⟨pk_183_48, ⟨pk_183_96, ⟨pk_183_144, ⟨pk_183_192, ⟨pk_183_240, ⟨pk_183_288, ⟨pk_183_336, ⟨pk_183_384, ⟨pk_183_432, ⟨pk_183_480, ⟨pk_183_528, ⟨pk_183_576, ⟨pk_183_624, ⟨pk_183_672, ⟨pk_183_720, ⟨pk_183_768, ⟨pk_183_816, ⟨pk_183_864, pk_183_912⟩⟩⟩⟩⟩⟩⟩⟩⟩⟩⟩⟩⟩⟩⟩⟩⟩⟩⟩
def pkP (m : Nat) : Prop := (prL.getD m []).all (ckE m) = true
theorem pkg_0 : ∀ m ∈ ([0, 1, 2, 3, 4, 5, 6, 7, 8, 9, 10, 11, 12, 13, 14, 15] : List Nat), pkP m := List.forall_mem_cons.mpr ⟨pk_0, List.forall_mem_cons.mpr ⟨pk_1, List.forall_mem_cons.mpr ⟨pk_2, List.forall_mem_cons.mpr ⟨pk_3, List.forall_mem_cons.mpr ⟨pk_4, List.forall_mem_cons.mpr ⟨pk_5, List.forall_mem_cons.mpr ⟨pk_6, List.forall_mem_cons.mpr ⟨pk_7, List.forall_mem_cons.mpr ⟨pk_8, List.forall_mem_cons.mpr ⟨pk_9, List.forall_mem_cons.mpr ⟨pk_10, List.forall_mem_cons.mpr ⟨pk_11, List.forall_mem_cons.mpr ⟨pk_12, List.forall_mem_cons.mpr ⟨pk_13, List.forall_mem_cons.mpr ⟨pk_14, List.forall_mem_cons.mpr ⟨pk_15, fun _ h => absurd h List.not_mem_nil⟩⟩⟩⟩⟩⟩⟩⟩⟩⟩⟩⟩⟩⟩⟩⟩
theorem pkg_1 : ∀ m ∈ ([16, 17, 18, 19, 20, 21, 22, 23, 24, 25, 26, 27, 28, 29, 30, 31] : List Nat), pkP m := List.forall_mem_cons.mpr ⟨pk_16, List.forall_mem_cons.mpr ⟨pk_17, List.forall_mem_cons.mpr ⟨pk_18, List.forall_mem_cons.mpr ⟨pk_19, List.forall_mem_cons.mpr ⟨pk_20, List.forall_mem_cons.mpr ⟨pk_21, List.forall_mem_cons.mpr ⟨pk_22, List.forall_mem_cons.mpr ⟨pk_23, List.forall_mem_cons.mpr ⟨pk_24, List.forall_mem_cons.mpr ⟨pk_25, List.forall_mem_cons.mpr ⟨pk_26, List.forall_mem_cons.mpr ⟨pk_27, List.forall_mem_cons.mpr ⟨pk_28, List.forall_mem_cons.mpr ⟨pk_29, List.forall_mem_cons.mpr ⟨pk_30, List.forall_mem_cons.mpr ⟨pk_31, fun _ h => absurd h List.not_mem_nil⟩⟩⟩⟩⟩⟩⟩⟩⟩⟩⟩⟩⟩⟩⟩⟩
theorem pkg_2 : ∀ m ∈ ([32, 33, 34, 35, 36, 37, 38, 39, 40, 41, 42, 43, 44, 45, 46, 47] : List Nat), pkP m := List.forall_mem_cons.mpr ⟨pk_32, List.forall_mem_cons.mpr ⟨pk_33, List.forall_mem_cons.mpr ⟨pk_34, List.forall_mem_cons.mpr ⟨pk_35, List.forall_mem_cons.mpr ⟨pk_36, List.forall_mem_cons.mpr ⟨pk_37, List.forall_mem_cons.mpr ⟨pk_38, List.forall_mem_cons.mpr ⟨pk_39, List.forall_mem_cons.mpr ⟨pk_40, List.forall_mem_cons.mpr ⟨pk_41, List.forall_mem_cons.mpr ⟨pk_42, List.forall_mem_cons.mpr ⟨pk_43, List.forall_mem_cons.mpr ⟨pk_44, List.forall_mem_cons.mpr ⟨pk_45, List.forall_mem_cons.mpr ⟨pk_46, List.forall_mem_cons.mpr ⟨pk_47, fun _ h => absurd h List.not_mem_nil⟩⟩⟩⟩⟩⟩⟩⟩⟩⟩⟩⟩⟩⟩⟩⟩
theorem pkg_3 : ∀ m ∈ ([48, 49, 50, 51, 52, 53, 54, 55, 56, 57, 58, 59, 60, 61, 62, 63] : List Nat), pkP m := List.forall_mem_cons.mpr ⟨pk_48, List.forall_mem_cons.mpr ⟨pk_49, List.forall_mem_cons.mpr ⟨pk_50, List.forall_mem_cons.mpr ⟨pk_51, List.forall_mem_cons.mpr ⟨pk_52, List.forall_mem_cons.mpr ⟨pk_53, List.forall_mem_cons.mpr ⟨pk_54, List.forall_mem_cons.mpr ⟨pk_55, List.forall_mem_cons.mpr ⟨pk_56, List.forall_mem_cons.mpr ⟨pk_57, List.forall_mem_cons.mpr ⟨pk_58, List.forall_mem_cons.mpr ⟨pk_59, List.forall_mem_cons.mpr ⟨pk_60, List.forall_mem_cons.mpr ⟨pk_61, List.forall_mem_cons.mpr ⟨pk_62, List.forall_mem_cons.mpr ⟨pk_63, fun _ h => absurd h List.not_mem_nil⟩⟩⟩⟩⟩⟩⟩⟩⟩⟩⟩⟩⟩⟩⟩⟩
theorem pkg_4 : ∀ m ∈ ([64, 65, 66, 67, 68, 69, 70, 71, 72, 73, 74, 75, 76, 77, 78, 79] : List Nat), pkP m := List.forall_mem_cons.mpr ⟨pk_64, List.forall_mem_cons.mpr ⟨pk_65, List.forall_mem_cons.mpr ⟨pk_66, List.forall_mem_cons.mpr ⟨pk_67, List.forall_mem_cons.mpr ⟨pk_68, List.forall_mem_cons.mpr ⟨pk_69, List.forall_mem_cons.mpr ⟨pk_70, List.forall_mem_cons.mpr ⟨pk_71, List.forall_mem_cons.mpr ⟨pk_72, List.forall_mem_cons.mpr ⟨pk_73, List.forall_mem_cons.mpr ⟨pk_74, List.forall_mem_cons.mpr ⟨pk_75, List.forall_mem_cons.mpr ⟨pk_76, List.forall_mem_cons.mpr ⟨pk_77, List.forall_mem_cons.mpr ⟨pk_78, List.forall_mem_cons.mpr ⟨pk_79, fun _ h => absurd h List.not_mem_nil⟩⟩⟩⟩⟩⟩⟩⟩⟩⟩⟩⟩⟩⟩⟩⟩
theorem pkg_5 : ∀ m ∈ ([80, 81, 82, 83, 84, 85, 86, 87, 88, 89, 90, 91, 92, 93, 94, 95] : List Nat), pkP m := List.forall_mem_cons.mpr ⟨pk_80, List.forall_mem_cons.mpr ⟨pk_81, List.forall_mem_cons.mpr ⟨pk_82, List.forall_mem_cons.mpr ⟨pk_83, List.forall_mem_cons.mpr ⟨pk_84, List.forall_mem_cons.mpr ⟨pk_85, List.forall_mem_cons.mpr ⟨pk_86, List.forall_mem_cons.mpr ⟨pk_87, List.forall_mem_cons.mpr ⟨pk_88, List.forall_mem_cons.mpr ⟨pk_89, List.forall_mem_cons.mpr ⟨pk_90, List.forall_mem_cons.mpr ⟨pk_91, List.forall_mem_cons.mpr ⟨pk_92, List.forall_mem_cons.mpr ⟨pk_93, List.forall_mem_cons.mpr ⟨pk_94, List.forall_mem_cons.mpr ⟨pk_95, fun _ h => absurd h List.not_mem_nil⟩⟩⟩⟩⟩⟩⟩⟩⟩⟩⟩⟩⟩⟩⟩⟩
theorem pkg_6 : ∀ m ∈ ([96, 97, 98, 99, 100, 101, 102, 103, 104, 105, 106, 107, 108, 109, 110, 111] : List Nat), pkP m := List.forall_mem_cons.mpr ⟨pk_96, List.forall_mem_cons.mpr ⟨pk_97, List.forall_mem_cons.mpr ⟨pk_98, List.forall_mem_cons.mpr ⟨pk_99, List.forall_mem_cons.mpr ⟨pk_100, List.forall_mem_cons.mpr ⟨pk_101, List.forall_mem_cons.mpr ⟨pk_102, List.forall_mem_cons.mpr ⟨pk_103, List.forall_mem_cons.mpr ⟨pk_104, List.forall_mem_cons.mpr ⟨pk_105, List.forall_mem_cons.mpr ⟨pk_106, List.forall_mem_cons.mpr ⟨pk_107, List.forall_mem_cons.mpr ⟨pk_108, List.forall_mem_cons.mpr ⟨pk_109, List.forall_mem_cons.mpr ⟨pk_110, List.forall_mem_cons.mpr ⟨pk_111, fun _ h => absurd h List.not_mem_nil⟩⟩⟩⟩⟩⟩⟩⟩⟩⟩⟩⟩⟩⟩⟩⟩
theorem pkg_7 : ∀ m ∈ ([112, 113, 114, 115, 116, 117, 118, 119, 120, 121, 122, 123, 124, 125, 126, 127] : List Nat), pkP m := List.forall_mem_cons.mpr ⟨pk_112, List.forall_mem_cons.mpr ⟨pk_113, List.forall_mem_cons.mpr ⟨pk_114, List.forall_mem_cons.mpr ⟨pk_115, List.forall_mem_cons.mpr ⟨pk_116, List.forall_mem_cons.mpr ⟨pk_117, List.forall_mem_cons.mpr ⟨pk_118, List.forall_mem_cons.mpr ⟨pk_119, List.forall_mem_cons.mpr ⟨pk_120, List.forall_mem_cons.mpr ⟨pk_121, List.forall_mem_cons.mpr ⟨pk_122, List.forall_mem_cons.mpr ⟨pk_123, List.forall_mem_cons.mpr ⟨pk_124, List.forall_mem_cons.mpr ⟨pk_125, List.forall_mem_cons.mpr ⟨pk_126, List.forall_mem_cons.mpr ⟨pk_127, fun _ h => absurd h List.not_mem_nil⟩⟩⟩⟩⟩⟩⟩⟩⟩⟩⟩⟩⟩⟩⟩⟩
theorem pkg_8 : ∀ m ∈ ([128, 129, 130, 131, 132, 133, 134, 135, 136, 137, 138, 139, 140, 141, 142, 143] : List Nat), pkP m := List.forall_mem_cons.mpr ⟨pk_128, List.forall_mem_cons.mpr ⟨pk_129, List.forall_mem_cons.mpr ⟨pk_130, List.forall_mem_cons.mpr ⟨pk_131, List.forall_mem_cons.mpr ⟨pk_132, List.forall_mem_cons.mpr ⟨pk_133, List.forall_mem_cons.mpr ⟨pk_134, List.forall_mem_cons.mpr ⟨pk_135, List.forall_mem_cons.mpr ⟨pk_136, List.forall_mem_cons.mpr ⟨pk_137, List.forall_mem_cons.mpr ⟨pk_138, List.forall_mem_cons.mpr ⟨pk_139, List.forall_mem_cons.mpr ⟨pk_140, List.forall_mem_cons.mpr ⟨pk_141, List.forall_mem_cons.mpr ⟨pk_142, List.forall_mem_cons.mpr ⟨pk_143, fun _ h => absurd h List.not_mem_nil⟩⟩⟩⟩⟩⟩⟩⟩⟩⟩⟩⟩⟩⟩⟩⟩
theorem pkg_9 : ∀ m ∈ ([144, 145, 146, 147, 148, 149, 150, 151, 152, 153, 154, 155, 156, 157, 158, 159] : List Nat), pkP m := List.forall_mem_cons.mpr ⟨pk_144, List.forall_mem_cons.mpr ⟨pk_145, List.forall_mem_cons.mpr ⟨pk_146, List.forall_mem_cons.mpr ⟨pk_147, List.forall_mem_cons.mpr ⟨pk_148, List.forall_mem_cons.mpr ⟨pk_149, List.forall_mem_cons.mpr ⟨pk_150, List.forall_mem_cons.mpr ⟨pk_151, List.forall_mem_cons.mpr ⟨pk_152, List.forall_mem_cons.mpr ⟨pk_153, List.forall_mem_cons.mpr ⟨pk_154, List.forall_mem_cons.mpr ⟨pk_155, List.forall_mem_cons.mpr ⟨pk_156, List.forall_mem_cons.mpr ⟨pk_157, List.forall_mem_cons.mpr ⟨pk_158, List.forall_mem_cons.mpr ⟨pk_159, fun _ h => absurd h List.not_mem_nil⟩⟩⟩⟩⟩⟩⟩⟩⟩⟩⟩⟩⟩⟩⟩⟩
theorem pkg_10 : ∀ m ∈ ([160, 161, 162, 163, 164, 165, 166, 167, 168, 169, 170, 171, 172, 173, 174, 175] : List Nat), pkP m := List.forall_mem_cons.mpr ⟨pk_160, List.forall_mem_cons.mpr ⟨pk_161, List.forall_mem_cons.mpr ⟨pk_162, List.forall_mem_cons.mpr ⟨pk_163, List.forall_mem_cons.mpr ⟨pk_164, List.forall_mem_cons.mpr ⟨pk_165, List.forall_mem_cons.mpr ⟨pk_166, List.forall_mem_cons.mpr ⟨pk_167, List.forall_mem_cons.mpr ⟨pk_168, List.forall_mem_cons.mpr ⟨pk_169, List.forall_mem_cons.mpr ⟨pk_170, List.forall_mem_cons.mpr ⟨pk_171, List.forall_mem_cons.mpr ⟨pk_172, List.forall_mem_cons.mpr ⟨pk_173, List.forall_mem_cons.mpr ⟨pk_174, List.forall_mem_cons.mpr ⟨pk_175, fun _ h => absurd h List.not_mem_nil⟩⟩⟩⟩⟩⟩⟩⟩⟩⟩⟩⟩⟩⟩⟩⟩
theorem pkg_11 : ∀ m ∈ ([176, 177, 178, 179, 180, 181, 182, 183] : List Nat), pkP m := List.forall_mem_cons.mpr ⟨pk_176, List.forall_mem_cons.mpr ⟨pk_177, List.forall_mem_cons.mpr ⟨pk_178, List.forall_mem_cons.mpr ⟨pk_179, List.forall_mem_cons.mpr ⟨pk_180, List.forall_mem_cons.mpr ⟨pk_181, List.forall_mem_cons.mpr ⟨pk_182, List.forall_mem_cons.mpr ⟨pk_183, fun _ h => absurd h List.not_mem_nil⟩⟩⟩⟩⟩⟩⟩⟩
theorem pk_all {m : Nat} (h : m < 184) : (prL.getD m []).all (ckE m) = true := by
  have e : List.range 184 = [0, 1, 2, 3, 4, 5, 6, 7, 8, 9, 10, 11, 12, 13, 14, 15] ++ ([16, 17, 18, 19, 20, 21, 22, 23, 24, 25, 26, 27, 28, 29, 30, 31] ++ ([32, 33, 34, 35, 36, 37, 38, 39, 40, 41, 42, 43, 44, 45, 46, 47] ++ ([48, 49, 50, 51, 52, 53, 54, 55, 56, 57, 58, 59, 60, 61, 62, 63] ++ ([64, 65, 66, 67, 68, 69, 70, 71, 72, 73, 74, 75, 76, 77, 78, 79] ++ ([80, 81, 82, 83, 84, 85, 86, 87, 88, 89, 90, 91, 92, 93, 94, 95] ++ ([96, 97, 98, 99, 100, 101, 102, 103, 104, 105, 106, 107, 108, 109, 110, 111] ++ ([112, 113, 114, 115, 116, 117, 118, 119, 120, 121, 122, 123, 124, 125, 126, 127] ++ ([128, 129, 130, 131, 132, 133, 134, 135, 136, 137, 138, 139, 140, 141, 142, 143] ++ ([144, 145, 146, 147, 148, 149, 150, 151, 152, 153, 154, 155, 156, 157, 158, 159] ++ ([160, 161, 162, 163, 164, 165, 166, 167, 168, 169, 170, 171, 172, 173, 174, 175] ++ ([176, 177, 178, 179, 180, 181, 182, 183]))))))))))) := by decide +kernel
  have h1 := List.mem_range.mpr h
  rw [e] at h1
  have h2 : ∀ m ∈ ([0, 1, 2, 3, 4, 5, 6, 7, 8, 9, 10, 11, 12, 13, 14, 15] : List Nat) ++ (([16, 17, 18, 19, 20, 21, 22, 23, 24, 25, 26, 27, 28, 29, 30, 31] : List Nat) ++ (([32, 33, 34, 35, 36, 37, 38, 39, 40, 41, 42, 43, 44, 45, 46, 47] : List Nat) ++ (([48, 49, 50, 51, 52, 53, 54, 55, 56, 57, 58, 59, 60, 61, 62, 63] : List Nat) ++ (([64, 65, 66, 67, 68, 69, 70, 71, 72, 73, 74, 75, 76, 77, 78, 79] : List Nat) ++ (([80, 81, 82, 83, 84, 85, 86, 87, 88, 89, 90, 91, 92, 93, 94, 95] : List Nat) ++ (([96, 97, 98, 99, 100, 101, 102, 103, 104, 105, 106, 107, 108, 109, 110, 111] : List Nat) ++ (([112, 113, 114, 115, 116, 117, 118, 119, 120, 121, 122, 123, 124, 125, 126, 127] : List Nat) ++ (([128, 129, 130, 131, 132, 133, 134, 135, 136, 137, 138, 139, 140, 141, 142, 143] : List Nat) ++ (([144, 145, 146, 147, 148, 149, 150, 151, 152, 153, 154, 155, 156, 157, 158, 159] : List Nat) ++ (([160, 161, 162, 163, 164, 165, 166, 167, 168, 169, 170, 171, 172, 173, 174, 175] : List Nat) ++ (([176, 177, 178, 179, 180, 181, 182, 183] : List Nat)))))))))))), pkP m := List.forall_mem_append.mpr ⟨pkg_0, List.forall_mem_append.mpr ⟨pkg_1, List.forall_mem_append.mpr ⟨pkg_2, List.forall_mem_append.mpr ⟨pkg_3, List.forall_mem_append.mpr ⟨pkg_4, List.forall_mem_append.mpr ⟨pkg_5, List.forall_mem_append.mpr ⟨pkg_6, List.forall_mem_append.mpr ⟨pkg_7, List.forall_mem_append.mpr ⟨pkg_8, List.forall_mem_append.mpr ⟨pkg_9, List.forall_mem_append.mpr ⟨pkg_10, pkg_11⟩⟩⟩⟩⟩⟩⟩⟩⟩⟩⟩
  exact h2 m h1
end
section
/-! the small machine's heap in the machine's own -/
def ad (b base : Nat) (i : Nat) : Nat := if i = 999999 then b else base + i
def cv (b base : Nat) : Value → Value
  | .ref i => .ref (ad b base i)
  | v => v
def ca' (b base : Nat) (ca : Nat → ClassId) (t : Nat) (x : vp_A) : va_E := match x with
  | (n, .inr (.inr (.inr (.inr f)))) => .inl (ca t, n, .inr (.inr (.inr (.inr (fun j => (f j).map (ad b base))))))
  | x => .inl (ca t, x)
def ce (b base : Nat) (ca : Nat → ClassId) : va_E → va_E
  | .inl (t, x) => ca' b base ca t x
  | .inr (ci, fs) => .inr (ci, fs.map (cv b base))
def cw (b base : Nat) (ca : Nat → ClassId) (h : Nat → va_E) (sz : Nat) : va_W := (List.range sz).map fun i => (ad b base i, ce b base ca (h i))
def cl (b base : Nat) (ls : LSt) : LSt := ls.map fun q => (q.1, cv b base q.2)
theorem ad_lt {b base i : Nat} (h : i < 999999) : ad b base i = base + i := by unfold ad; rw [if_neg (by omega)]
theorem cv_cat (b base : Nat) (v : Value) : (cv b base v).category = v.category := by cases v <;> rfl
theorem cv_sum (b base : Nat) (st : List Value) : (((st.map (cv b base)).map fun v => v.category)).sum = (st.map fun v => v.category).sum := by
  rw [List.map_map]
  congr 1
  apply List.map_congr_left
  intro v _
  exact cv_cat b base v
theorem cw_get {b base : Nat} {ca : Nat → ClassId} {h : Nat → va_E} {sz i : Nat} (hi : i < sz) : (cw b base ca h sz)[i]? = some (ad b base i, ce b base ca (h i)) := by
  unfold cw
  rw [List.getElem?_map, List.getElem?_range hi]
  rfl
theorem cw_len {b base : Nat} {ca : Nat → ClassId} {h : Nat → va_E} {sz : Nat} : (cw b base ca h sz).length = sz := by simp [cw]
theorem cw_at {b base : Nat} {ca : Nat → ClassId} {h : Nat → va_E} {sz i : Nat} {q : Nat × va_E} (hq : (cw b base ca h sz)[i]? = some q) : i < sz ∧ q = (ad b base i, ce b base ca (h i)) := by
  have hi : i < sz := by
    have := (List.getElem?_eq_some_iff.mp hq).1
    rwa [cw_len] at this
  rw [cw_get hi] at hq
  exact ⟨hi, (Option.some.inj hq).symm⟩
theorem cw_set {b base : Nat} {ca : Nat → ClassId} {h : Nat → va_E} {sz i : Nat} (e : va_E) : (cw b base ca h sz).set i (ad b base i, ce b base ca e) = cw b base ca (va_up h i e) sz := by
  apply List.ext_getElem?
  intro j
  rw [List.getElem?_set]
  by_cases hj : j < sz
  · rw [cw_get (h := va_up h i e) hj]
    by_cases hij : i = j
    · subst hij
      rw [if_pos rfl, cw_len, if_pos hj]
      simp only [va_up, if_true]
    · rw [if_neg hij, cw_get hj]
      simp only [va_up]
      rw [if_neg (Ne.symm hij)]
  · have e1 : (cw b base ca (va_up h i e) sz)[j]? = none := by rw [List.getElem?_eq_none_iff, cw_len]; omega
    have e2 : (cw b base ca h sz)[j]? = none := by rw [List.getElem?_eq_none_iff, cw_len]; omega
    rw [e1, e2]
    by_cases hij : i = j
    · subst hij
      rw [if_pos rfl, cw_len, if_neg hj]
    · rw [if_neg hij]
theorem cw_push {b base : Nat} {ca : Nat → ClassId} {h : Nat → va_E} {sz : Nat} (e : va_E) : cw b base ca h sz ++ [(ad b base sz, ce b base ca e)] = cw b base ca (va_up h sz e) (sz + 1) := by
  unfold cw
  rw [List.range_succ, List.map_append]
  congr 1
  · apply List.map_congr_left
    intro i hi
    have := List.mem_range.mp hi
    simp only [va_up]
    rw [if_neg (by omega)]
  · simp [va_up]
theorem cw_D {b base : Nat} {ca : Nat → ClassId} {h : Nat → va_E} {sz : Nat} (hz : sz ≤ 999999) : va_D (fun q : Nat => base ≤ q) (cw b base ca h sz) := by
  refine ⟨fun i j x y hi hj hxy => ?_, fun k q hk => ?_⟩
  · obtain ⟨h1, rfl⟩ := cw_at hi
    obtain ⟨h2, rfl⟩ := cw_at hj
    dsimp only at hxy
    rw [ad_lt (by omega), ad_lt (by omega)] at hxy
    omega
  · obtain ⟨h1, rfl⟩ := cw_at hk
    show base ≤ ad b base k
    rw [ad_lt (by omega)]
    omega
theorem lget_mem {ls : LSt} {k : Nat} {v : Value} (h : lget ls k = some v) : (k, v) ∈ ls := by
  induction ls with
  | nil => cases h
  | cons q r ih =>
    obtain ⟨j, w⟩ := q
    unfold lget at h
    by_cases hj : j = k
    · rw [if_pos hj] at h
      cases h
      subst hj
      exact List.mem_cons_self
    · rw [if_neg hj] at h
      exact List.mem_cons_of_mem _ (ih h)
theorem cl_get {b base : Nat} {ls : LSt} {k : Nat} {v : Value} (h : lget ls k = some v) : (k, cv b base v) ∈ cl b base ls := List.mem_map_of_mem (f := fun q : Nat × Value => (q.1, cv b base q.2)) (lget_mem h)
theorem cl_put1 (b base : Nat) (ls : LSt) (k : Nat) (v : Value) : (k, cv b base v) :: (cl b base ls).filter (fun q => !(q.1 == k) && !(q.1 + 1 == k && q.2.category == 2)) = cl b base (lput1 ls k v) := by
  unfold lput1 cl
  rw [List.map_cons, List.filter_map]
  congr 2
  apply List.filter_congr
  intro q _
  simp only [Function.comp, cv_cat]
theorem cl_put2 (b base : Nat) (ls : LSt) (k : Nat) (v : Value) : (k, cv b base v) :: (cl b base ls).filter (fun q => !(q.1 == k) && (!(q.1 == k + 1) && !(q.1 + 1 == k && q.2.category == 2))) = cl b base (lput2 ls k v) := by
  unfold lput2 cl
  rw [List.map_cons, List.filter_map]
  congr 2
  apply List.filter_congr
  intro q _
  simp only [Function.comp, cv_cat]
theorem cl_args (b base : Nat) (as : List Value) : ∀ i : Nat, cl b base (lv_args i as) = lv_args i (as.map (cv b base)) := by
  induction as with
  | nil => intro i; rfl
  | cons v r ih =>
    intro i
    show (i, cv b base v) :: cl b base (lv_args (if v.category = 2 then i + 2 else i + 1) r) = (i, cv b base v) :: lv_args (if (cv b base v).category = 2 then i + 2 else i + 1) (r.map (cv b base))
    rw [ih, cv_cat]
theorem sl_len (vs : List Value) : (lg_sl vs).length = (vs.map fun v => v.category).sum := by
  unfold lg_sl
  induction vs with
  | nil => rfl
  | cons v r ih =>
    rw [List.flatMap_cons, List.length_append, ih, List.map_cons, List.sum_cons]
    congr 1
    cases v <;> rfl
theorem inb_in {j : Int32} {n : Nat} (h : inb j n = true) : vp_in j n := by
  unfold inb at h
  simp only [Bool.and_eq_true, decide_eq_true_eq] at h
  exact vp_in_iff.mpr h
def tysOf (ca : Nat → ClassId) : List (ClassId × FieldType) := [(ca 0, .int), (ca 1, .object "BoxSpider$Stand"), (ca 2, .object "BoxSpider$Sheet")]
def NWd (U : State) : Prop := (∀ q ∈ nfl, va_Nw (nfW q) U) ∧ (∀ q ∈ nml, va_Nw (nmW q) U) ∧ va_AO "BoxSpider$Stand" U ∧ va_AO "BoxSpider$Sheet" U
theorem NWd.warm {s U : State} (hW : s.WarmedH U.vm) (h : NWd s) : NWd U :=
  ⟨fun q hq => va_Nw.warmF hW (h.1 q hq), fun q hq => va_Nw.warmM hW (h.2.1 q hq), h.2.2.1.moved hW.alike, h.2.2.2.moved hW.alike⟩
theorem NWd.same {s U : State} (hv : s.vm = U.vm) (h : NWd s) : NWd U :=
  ⟨fun q hq => (h.1 q hq).same rfl hv, fun q hq => (h.2.1 q hq).same rfl hv, h.2.2.1.moved (hv ▸ Vm.Alike.refl s.vm), h.2.2.2.moved (hv ▸ Vm.Alike.refl s.vm)⟩
def Wd (b base : Nat) (ca : Nat → ClassId) (D : va_G) (h : HS) (H : Heap) : Prop := h.2.1 ≤ 999999 ∧ va_P D vwCl (cw b base ca h.1 h.2.1) H
/-- what stands fast in a frame of method k -/
def Cx (p : Program) (s : State) (m : MethodId) (args : Array Value) (meth : Method) (c : Code) (k b base : Nat) (ca : Nat → ClassId) (D : va_G) (scr : Option (Nat × (Nat → Int32))) : Prop :=
  p.tables.exec = Jvm.exec ∧ c.code = MB k ∧ c.maxLocals = ML k ∧ s.vm.findClass (cn (mC.getD k 99)) = some m.cls ∧ (∀ w ∈ GT, w.before args s = true) ∧ NWd s ∧ va_K D vwCl (tysOf ca) s ∧ (isInit k = true → meth.name = "<init>") ∧ base ≤ s.heap.size ∧ (∀ n f, scr = some (n, f) → va_X b n f s s.heap ∧ b < base)
theorem lkp_mem {ps : List (Nat × Instr × Nat)} {pc : Nat} {i : Instr} {n : Nat} (h : lkp ps pc = some (i, n)) : (pc, i, n) ∈ ps := by
  induction ps with
  | nil => cases h
  | cons q r ih =>
    obtain ⟨q, i', n'⟩ := q
    unfold lkp at h
    cases hb : Nat.beq q pc with
    | true =>
      rw [hb] at h
      have := Nat.eq_of_beq_eq_true hb
      cases h
      subst this
      exact List.mem_cons_self
    | false =>
      rw [hb] at h
      exact List.mem_cons_of_mem _ (ih h)
end
section
theorem W.sz {p : Program} {l : Launch} {e : Env} {R : Room} {s : State} {m : MethodId} {args : Array Value} {below : List Frame} {meth : Method} {c : Code} {H : Heap} {locs : List Loc} {cells slots : Nat} {Q : State → Prop} {g : JFrame} (k : H.size ≤ s.heap.size + cells → W p l e R s m args below meth c H locs cells slots Q g) : W p l e R s m args below meth c H locs cells slots Q g := by
  intro T hT X
  have h1 : T.heap.size ≤ s.heap.size + cells := X.same.2.2.1
  exact k (by rw [← hT]; exact h1) T hT X
theorem cw_low {b base : Nat} {ca : Nat → ClassId} {D : va_G} {h : Nat → va_E} {sz : Nat} {H : Heap} (hz : sz ≤ 999999) (hP : va_P D vwCl (cw b base ca h sz) H) (hb : base ≤ H.size) : base + sz ≤ H.size := by
  cases sz with
  | zero => exact hb
  | succ n =>
    have h1 := (hP n _ (cw_get (Nat.lt_succ_self n))).lt
    dsimp only at h1
    rw [ad_lt (by omega)] at h1
    omega
theorem ckF_in {o x e : Nat} (h : ckF o x e = true) : (o, x, e / 100 % 100, e % 100) ∈ flk ∨ (o, x, e / 100 % 100, e % 100) ∈ nfl := by
  unfold ckF at h
  split at h
  · exact Or.inl (List.mem_of_getElem? (of_decide_eq_true h))
  · exact Or.inr (List.mem_of_getElem? (of_decide_eq_true h))
theorem ckF_nn {o x e : Nat} (h : ckF o x e = true) (h0 : e / 10000000 = 0) : (o, x, e / 100 % 100, e % 100) ∈ flk := by
  unfold ckF at h
  rw [if_pos h0] at h
  exact List.mem_of_getElem? (of_decide_eq_true h)
theorem fl_lt {o x ci k : Nat} (h : (o, x, ci, k) ∈ flk ∨ (o, x, ci, k) ∈ nfl) : ci < 11 ∧ k < fN ci := by
  rcases h with h | h
  · have h1 := List.all_eq_true.mp fl_ok _ h
    simpa only [Bool.and_eq_true, decide_eq_true_eq] using h1
  · have h1 := List.all_eq_true.mp nfl_ok _ h
    simpa only [Bool.and_eq_true, decide_eq_true_eq] using h1
theorem vok_ok {b base ci k : Nat} {v : Value} (hc : ci < 11) (hk : k < fN ci) (h : vok ci k v = true) : narrow (fty ci k) (cv b base v) = cv b base v ∧ fits (fty ci k) (cv b base v) = true := by
  have h1 := fI_ok ci hc k hk
  unfold vok at h
  split at h
  · rw [h, if_pos rfl] at h1
    unfold ftk at h1
    split at h1
    · rename_i he
      rw [he]
      exact ⟨rfl, rfl⟩
    · cases h1
  · have h2 : fI ci k = false := by simpa using h
    rw [h2] at h1
    simp only [Bool.false_eq_true, if_false] at h1
    unfold ftr at h1
    split at h1
    · rename_i he
      rw [he]
      exact ⟨rfl, rfl⟩
    · rename_i he
      rw [he]
      exact ⟨rfl, rfl⟩
    · cases h1
  · cases h
theorem inb_n {n : Int32} (h : inb n 100000 = true) : ¬ n < 0 ∧ n.toNatClampNeg * 4 ≤ 536870912 := by
  have h1 := vp_in_iff.mp (inb_in h)
  have h3 := inb_in h
  refine ⟨fun q => h3 (Or.inl q), ?_⟩
  have h2 : n.toNatClampNeg = n.toInt.toNat := rfl
  omega
/-- the number of a new cell -/
theorem new_at {b base : Nat} {ca : Nat → ClassId} {D : va_G} {h : Nat → va_E} {sz q n : Nat} {e : va_E} {H : Heap} (hz : sz < 999999) (hP : va_P D vwCl (cw b base ca h sz ++ [(q, e)]) H) (hD : va_D (fun q : Nat => base ≤ q) (cw b base ca h sz ++ [(q, e)])) (hn : H.size ≤ n) (he : n = base + sz + 1) : q = ad b base sz := by
  have e1 : (cw b base ca h sz ++ [(q, e)])[sz]? = some (q, e) := by
    rw [List.getElem?_append_right (by rw [cw_len]; exact Nat.le_refl _), cw_len, Nat.sub_self]
    rfl
  have h1 := (hP sz _ e1).lt
  have h2 := hD.2 sz _ e1
  dsimp only at h1 h2
  rw [ad_lt hz]
  by_cases hq : q = base + sz
  · exact hq
  · exfalso
    have hi : q - base < sz := by omega
    have e2 : (cw b base ca h sz ++ [(q, e)])[q - base]? = some (ad b base (q - base), ce b base ca (h (q - base))) := by
      rw [List.getElem?_append_left (by rw [cw_len]; exact hi), cw_get hi]
    have h3 := hD.1 (q - base) sz _ _ e2 e1 (by dsimp only; rw [ad_lt (by omega)]; omega)
    omega
theorem dfl_cv (b base ci : Nat) (h : ci < 11) : (dfl ci).map (cv b base) = dfl ci := by
  match ci, h with
  | 0, _ => rfl
  | 1, _ => rfl
  | 2, _ => rfl
  | 3, _ => rfl
  | 4, _ => rfl
  | 5, _ => rfl
  | 6, _ => rfl
  | 7, _ => rfl
  | 8, _ => rfl
  | 9, _ => rfl
  | 10, _ => rfl
set_option maxHeartbeats 8000000 in
set_option maxRecDepth 100000 in
theorem stp_sim {p : Program} {l : Launch} {e : Env} {R : Room} {s : State} {m : MethodId} {args : Array Value} {below : List Frame} {meth : Method} {c : Code} {Q : State → Prop} {k b base : Nat} {ca : Nat → ClassId} {D : va_G} {scr : Option (Nat × (Nat → Int32))} (C : Cx p s m args meth c k b base ca D scr)
    {pc np : Nat} {i : Instr} (hck : ckE k (pc, i, np) = true) {ls ls' : LSt} {st st' : List Value} {h h' : HS} (hs : stp scr i (ML k) ls st h = some (ls', st', h')) {H : Heap} {locs : List Loc} {lsA : Array Slot} {cells slots : Nat} (hW : Wd b base ca D h H) (hS : va_S (fun q : Nat => base ≤ q) s.heap H locs) (hl : lv_has lsA (ML k) (cl b base ls)) (hce : s.heap.size + cells = base + h.2.1) (hcells : cells + (h'.2.1 - h.2.1) ≤ R.cells) (hslots : slots + (h'.2.2 - h.2.2) ≤ R.slots)
    (kk : ∀ (H' : Heap) (locs' : List Loc) (lsA' : Array Slot) (cells' slots' : Nat), cells' = cells + (h'.2.1 - h.2.1) → slots' = slots + (h'.2.2 - h.2.2) → Wd b base ca D h' H' → va_S (fun q : Nat => base ≤ q) s.heap H' locs' → lv_has lsA' (ML k) (cl b base ls') → W p l e R s m args below meth c H' locs' cells' slots' Q (F0 m np lsA' (st'.map (cv b base)))) :
    W p l e R s m args below meth c H locs cells slots Q (F0 m pc lsA (st.map (cv b base))) := by
  obtain ⟨hx, hb, hml, hown, hts, hN, hK, hin, hbs, hscr⟩ := C
  obtain ⟨hz9, hP⟩ := id hW
  have hD : va_D (fun q : Nat => base ≤ q) (cw b base ca h.1 h.2.1) := cw_D hz9
  have hA : ∀ q : Nat, s.heap.size ≤ q → base ≤ q := fun q hq => Nat.le_trans hbs hq
  unfold ckE at hck
  dsimp only at hck
  split at hck
  case h_2 => cases hck
  case h_1 o len hd =>
  simp only [Bool.and_eq_true, decide_eq_true_eq] at hck
  obtain ⟨⟨hnp, hlen⟩, hc⟩ := hck
  subst hnp
  unfold chk at hc
  split at hc
  · have hlen2 : len = 1 := of_decide_eq_true hlen
    subst hlen2
    simp only [stp] at hs
    cases hs
    obtain rfl := of_decide_eq_true hc
    exact lv_iconst hx hb hd rfl (kk H locs lsA cells slots (by omega) (by omega) hW hS hl)
  · have hlen2 : len = 2 := of_decide_eq_true hlen
    subst hlen2
    simp only [stp] at hs
    cases hs
    exact lv_bipush hx hb hd (of_decide_eq_true hc) (kk H locs lsA cells slots (by omega) (by omega) hW hS hl)
  · have hlen2 : len = 3 := of_decide_eq_true hlen
    subst hlen2
    simp only [stp] at hs
    cases hs
    exact lv_sipush hx hb hd (of_decide_eq_true hc) (kk H locs lsA cells slots (by omega) (by omega) hW hS hl)
  · have hlen2 : len = 1 := of_decide_eq_true hlen
    subst hlen2
    simp only [stp] at hs
    cases hs
    obtain rfl := of_decide_eq_true hc
    exact lv_lconst hx hb hd rfl (kk H locs lsA cells slots (by omega) (by omega) hW hS hl)
  · have hlen2 : len = 2 := of_decide_eq_true hlen
    subst hlen2
    rename_i x j
    simp only [stp] at hs
    cases hs
    have hj := of_decide_eq_true hc
    cases hq : kcI[j]? with
    | none => rw [hq] at hj; cases hj
    | some q =>
      rw [hq] at hj
      have h1 := Option.some.inj hj
      have h2 : q.1 = mC.getD k 99 := congrArg Prod.fst h1
      have h3 : q.2.1 = x := congrArg Prod.snd h1
      have h4 : kIv j = q.2.2 := by unfold kIv; rw [List.getD_eq_getElem?_getD, hq]; rfl
      have h5 := hts _ (kcI_in (List.mem_of_getElem? hq))
      rw [h2, h3] at h5
      have kk2 := kk H locs lsA cells slots (by omega) (by omega) hW hS hl
      rw [h4] at kk2
      exact lv_ldc hx hb hown h5 hd kk2
  · have hlen2 : len = 3 := of_decide_eq_true hlen
    subst hlen2
    rename_i x j
    simp only [stp] at hs
    cases hs
    have hj := of_decide_eq_true hc
    cases hq : kcI[j]? with
    | none => rw [hq] at hj; cases hj
    | some q =>
      rw [hq] at hj
      have h1 := Option.some.inj hj
      have h2 : q.1 = mC.getD k 99 := congrArg Prod.fst h1
      have h3 : q.2.1 = x := congrArg Prod.snd h1
      have h4 : kIv j = q.2.2 := by unfold kIv; rw [List.getD_eq_getElem?_getD, hq]; rfl
      have h5 := hts _ (kcI_in (List.mem_of_getElem? hq))
      rw [h2, h3] at h5
      have kk2 := kk H locs lsA cells slots (by omega) (by omega) hW hS hl
      rw [h4] at kk2
      exact lv_ldcw hx hb hown h5 hd kk2
  · have hlen2 : len = 3 := of_decide_eq_true hlen
    subst hlen2
    rename_i x j
    simp only [stp] at hs
    cases hs
    have hj := of_decide_eq_true hc
    cases hq : kcL[j]? with
    | none => rw [hq] at hj; cases hj
    | some q =>
      rw [hq] at hj
      have h1 := Option.some.inj hj
      have h2 : q.1 = mC.getD k 99 := congrArg Prod.fst h1
      have h3 : q.2.1 = x := congrArg Prod.snd h1
      have h4 : kLv j = q.2.2 := by unfold kLv; rw [List.getD_eq_getElem?_getD, hq]; rfl
      have h5 := hts _ (kcL_in (List.mem_of_getElem? hq))
      rw [h2, h3] at h5
      have kk2 := kk H locs lsA cells slots (by omega) (by omega) hW hS hl
      rw [h4] at kk2
      exact lv_ldc2 hx hb hown h5 hd kk2
  · have hlen2 : len = 2 := of_decide_eq_true hlen
    subst hlen2
    simp only [stp] at hs
    obtain rfl := of_decide_eq_true hc
    split at hs
    case h_2 => cases hs
    case h_1 v hg =>
      cases hs
      exact lv_iload hx hb hd (hl.2.2 _ (cl_get hg)) (kk H locs lsA cells slots (by omega) (by omega) hW hS hl)
  · have hlen2 : len = 1 := of_decide_eq_true hlen
    subst hlen2
    simp only [stp] at hs
    obtain rfl := of_decide_eq_true hc
    split at hs
    case h_2 => cases hs
    case h_1 v hg =>
      cases hs
      exact lv_iload_n hx hb hd rfl (hl.2.2 _ (cl_get hg)) (kk H locs lsA cells slots (by omega) (by omega) hW hS hl)
  · have hlen2 : len = 2 := of_decide_eq_true hlen
    subst hlen2
    simp only [stp] at hs
    obtain rfl := of_decide_eq_true hc
    split at hs
    case h_2 => cases hs
    case h_1 v hg =>
      cases hs
      exact lv_lload hx hb hd (hl.2.2 _ (cl_get hg)) (kk H locs lsA cells slots (by omega) (by omega) hW hS hl)
  · have hlen2 : len = 1 := of_decide_eq_true hlen
    subst hlen2
    simp only [stp] at hs
    obtain rfl := of_decide_eq_true hc
    split at hs
    case h_2 => cases hs
    case h_1 v hg =>
      cases hs
      exact lv_lload_n hx hb hd rfl (hl.2.2 _ (cl_get hg)) (kk H locs lsA cells slots (by omega) (by omega) hW hS hl)
  · have hlen2 : len = 2 := of_decide_eq_true hlen
    subst hlen2
    simp only [stp] at hs
    obtain rfl := of_decide_eq_true hc
    split at hs
    case h_2 => cases hs
    case h_1 v hg =>
      cases hs
      exact lv_aload hx hb hd (hl.2.2 _ (cl_get hg)) (kk H locs lsA cells slots (by omega) (by omega) hW hS hl)
  · have hlen2 : len = 1 := of_decide_eq_true hlen
    subst hlen2
    simp only [stp] at hs
    obtain rfl := of_decide_eq_true hc
    split at hs
    case h_2 => cases hs
    case h_1 v hg =>
      cases hs
      exact lv_aload_n hx hb hd rfl (hl.2.2 _ (cl_get hg)) (kk H locs lsA cells slots (by omega) (by omega) hW hS hl)
  · have hlen2 : len = 2 := of_decide_eq_true hlen
    subst hlen2
    simp only [stp] at hs
    obtain rfl := of_decide_eq_true hc
    split at hs
    case h_2 => cases hs
    case h_1 v st2 =>
      split at hs
      case isFalse => cases hs
      case isTrue hk =>
        cases hs
        exact lv_istore hx hb hd hl hk (cl_put1 b base ls _ (.int v)) (fun ls2 hl2 => kk H locs ls2 cells slots (by omega) (by omega) hW hS hl2)
  · have hlen2 : len = 1 := of_decide_eq_true hlen
    subst hlen2
    simp only [stp] at hs
    obtain rfl := of_decide_eq_true hc
    split at hs
    case h_2 => cases hs
    case h_1 v st2 =>
      split at hs
      case isFalse => cases hs
      case isTrue hk =>
        cases hs
        exact lv_istore_n hx hb hd rfl hl hk (cl_put1 b base ls _ (.int v)) (fun ls2 hl2 => kk H locs ls2 cells slots (by omega) (by omega) hW hS hl2)
  · have hlen2 : len = 2 := of_decide_eq_true hlen
    subst hlen2
    simp only [stp] at hs
    obtain rfl := of_decide_eq_true hc
    split at hs
    case h_2 => cases hs
    case h_1 v st2 =>
      split at hs
      case isFalse => cases hs
      case isTrue hk =>
        cases hs
        exact lv_lstore hx hb hd hl hk (cl_put2 b base ls _ (.long v)) (fun ls2 hl2 => kk H locs ls2 cells slots (by omega) (by omega) hW hS hl2)
  · have hlen2 : len = 1 := of_decide_eq_true hlen
    subst hlen2
    simp only [stp] at hs
    obtain rfl := of_decide_eq_true hc
    split at hs
    case h_2 => cases hs
    case h_1 v st2 =>
      split at hs
      case isFalse => cases hs
      case isTrue hk =>
        cases hs
        exact lv_lstore_n hx hb hd rfl hl hk (cl_put2 b base ls _ (.long v)) (fun ls2 hl2 => kk H locs ls2 cells slots (by omega) (by omega) hW hS hl2)
  · have hlen2 : len = 2 := of_decide_eq_true hlen
    subst hlen2
    simp only [stp] at hs
    obtain rfl := of_decide_eq_true hc
    split at hs
    case h_2 => cases hs
    case h_1 v st2 =>
      split at hs
      case isFalse => cases hs
      case isTrue hk =>
        cases hs
        exact lv_astore hx hb hd hl hk (cl_put1 b base ls _ (.ref v)) (fun ls2 hl2 => kk H locs ls2 cells slots (by omega) (by omega) hW hS hl2)
  · have hlen2 : len = 1 := of_decide_eq_true hlen
    subst hlen2
    simp only [stp] at hs
    obtain rfl := of_decide_eq_true hc
    split at hs
    case h_2 => cases hs
    case h_1 v st2 =>
      split at hs
      case isFalse => cases hs
      case isTrue hk =>
        cases hs
        exact lv_astore_n hx hb hd rfl hl hk (cl_put1 b base ls _ (.ref v)) (fun ls2 hl2 => kk H locs ls2 cells slots (by omega) (by omega) hW hS hl2)
  · have hlen2 : len = 3 := of_decide_eq_true hlen
    subst hlen2
    simp only [stp] at hs
    simp only [Bool.and_eq_true, decide_eq_true_eq] at hc
    obtain ⟨rfl, rfl⟩ := hc
    split at hs
    case h_2 => cases hs
    case h_1 v hg =>
      split at hs
      case isFalse => cases hs
      case isTrue hk =>
        cases hs
        obtain ⟨kp, hkp⟩ := List.getElem?_of_mem (cl_get (b := b) (base := base) hg)
        exact lv_iinc hx hb hd hl hkp rfl hk (cl_put1 b base ls _ (.int _)) (fun ls2 hl2 => kk H locs ls2 cells slots (by omega) (by omega) hW hS hl2)
  · have hlen2 : len = 1 := of_decide_eq_true hlen
    subst hlen2
    simp only [stp] at hs
    split at hs
    case h_2 => cases hs
    case h_1 y x st2 =>
      cases hs
      exact lv_iadd hx hb hd (kk H locs lsA cells slots (by omega) (by omega) hW hS hl)
  · have hlen2 : len = 1 := of_decide_eq_true hlen
    subst hlen2
    simp only [stp] at hs
    split at hs
    case h_2 => cases hs
    case h_1 y x st2 =>
      cases hs
      exact lv_isub hx hb hd (kk H locs lsA cells slots (by omega) (by omega) hW hS hl)
  · have hlen2 : len = 1 := of_decide_eq_true hlen
    subst hlen2
    simp only [stp] at hs
    split at hs
    case h_2 => cases hs
    case h_1 y x st2 =>
      cases hs
      exact lv_imul hx hb hd (kk H locs lsA cells slots (by omega) (by omega) hW hS hl)
  · have hlen2 : len = 1 := of_decide_eq_true hlen
    subst hlen2
    simp only [stp] at hs
    split at hs
    case h_2 => cases hs
    case h_1 y x st2 =>
      cases hs
      exact lv_iand hx hb hd (kk H locs lsA cells slots (by omega) (by omega) hW hS hl)
  · have hlen2 : len = 1 := of_decide_eq_true hlen
    subst hlen2
    simp only [stp] at hs
    split at hs
    case h_2 => cases hs
    case h_1 y x st2 =>
      cases hs
      exact lv_ior hx hb hd (kk H locs lsA cells slots (by omega) (by omega) hW hS hl)
  · have hlen2 : len = 1 := of_decide_eq_true hlen
    subst hlen2
    simp only [stp] at hs
    split at hs
    case h_2 => cases hs
    case h_1 y x st2 =>
      cases hs
      exact lv_ixor hx hb hd (kk H locs lsA cells slots (by omega) (by omega) hW hS hl)
  · have hlen2 : len = 1 := of_decide_eq_true hlen
    subst hlen2
    simp only [stp] at hs
    split at hs
    case h_2 => cases hs
    case h_1 y x st2 =>
      split at hs
      case isTrue => cases hs
      case isFalse hy =>
        cases hs
        exact lv_idiv hx hb hd hy (kk H locs lsA cells slots (by omega) (by omega) hW hS hl)
  · have hlen2 : len = 1 := of_decide_eq_true hlen
    subst hlen2
    simp only [stp] at hs
    split at hs
    case h_2 => cases hs
    case h_1 y x st2 =>
      split at hs
      case isTrue => cases hs
      case isFalse hy =>
        cases hs
        exact lv_irem hx hb hd hy (kk H locs lsA cells slots (by omega) (by omega) hW hS hl)
  · have hlen2 : len = 1 := of_decide_eq_true hlen
    subst hlen2
    simp only [stp] at hs
    split at hs
    case h_2 => cases hs
    case h_1 x st2 =>
      cases hs
      exact lv_ineg hx hb hd (kk H locs lsA cells slots (by omega) (by omega) hW hS hl)
  · have hlen2 : len = 1 := of_decide_eq_true hlen
    subst hlen2
    simp only [stp] at hs
    split at hs
    case h_2 => cases hs
    case h_1 y x st2 =>
      cases hs
      exact lv_ishl hx hb hd (kk H locs lsA cells slots (by omega) (by omega) hW hS hl)
  · have hlen2 : len = 1 := of_decide_eq_true hlen
    subst hlen2
    simp only [stp] at hs
    split at hs
    case h_2 => cases hs
    case h_1 y x st2 =>
      cases hs
      exact lv_ishr hx hb hd (kk H locs lsA cells slots (by omega) (by omega) hW hS hl)
  · have hlen2 : len = 1 := of_decide_eq_true hlen
    subst hlen2
    simp only [stp] at hs
    split at hs
    case h_2 => cases hs
    case h_1 y x st2 =>
      cases hs
      exact lv_iushr hx hb hd rfl (kk H locs lsA cells slots (by omega) (by omega) hW hS hl)
  · have hlen2 : len = 1 := of_decide_eq_true hlen
    subst hlen2
    simp only [stp] at hs
    split at hs
    case h_2 => cases hs
    case h_1 x st2 =>
      cases hs
      exact lv_i2l hx hb hd rfl (kk H locs lsA cells slots (by omega) (by omega) hW hS hl)
  · have hlen2 : len = 1 := of_decide_eq_true hlen
    subst hlen2
    simp only [stp] at hs
    split at hs
    case h_2 => cases hs
    case h_1 x st2 =>
      cases hs
      exact lv_i2b hx hb hd rfl (kk H locs lsA cells slots (by omega) (by omega) hW hS hl)
  · have hlen2 : len = 1 := of_decide_eq_true hlen
    subst hlen2
    simp only [stp] at hs
    split at hs
    case h_2 => cases hs
    case h_1 x st2 =>
      cases hs
      exact lv_i2s hx hb hd rfl (kk H locs lsA cells slots (by omega) (by omega) hW hS hl)
  · have hlen2 : len = 1 := of_decide_eq_true hlen
    subst hlen2
    simp only [stp] at hs
    split at hs
    case h_2 => cases hs
    case h_1 y x st2 =>
      cases hs
      exact lv_ladd hx hb hd (kk H locs lsA cells slots (by omega) (by omega) hW hS hl)
  · have hlen2 : len = 1 := of_decide_eq_true hlen
    subst hlen2
    simp only [stp] at hs
    split at hs
    case h_2 => cases hs
    case h_1 y x st2 =>
      cases hs
      exact lv_lmul hx hb hd (kk H locs lsA cells slots (by omega) (by omega) hW hS hl)
  · have hlen2 : len = 1 := of_decide_eq_true hlen
    subst hlen2
    simp only [stp] at hs
    split at hs
    case h_2 => cases hs
    case h_1 y x st2 =>
      cases hs
      exact W.lcmp hx hb hd (kk H locs lsA cells slots (by omega) (by omega) hW hS hl)
  · have hlen2 : len = 1 := of_decide_eq_true hlen
    subst hlen2
    simp only [stp] at hs
    split at hs
    case h_3 => cases hs
    case h_1 x st2 =>
      cases hs
      exact lv_dup hx hb hd rfl (kk H locs lsA cells slots (by omega) (by omega) hW hS hl)
    case h_2 x st2 =>
      cases hs
      exact lv_dup hx hb hd rfl (kk H locs lsA cells slots (by omega) (by omega) hW hS hl)
  · have hlen2 : len = 1 := of_decide_eq_true hlen
    subst hlen2
    simp only [stp] at hs
    split at hs
    case h_2 => cases hs
    case h_1 x st2 =>
      cases hs
      exact lv_pop hx hb hd rfl (kk H locs lsA cells slots (by omega) (by omega) hW hS hl)
  · have hlen2 : len = 1 := of_decide_eq_true hlen
    subst hlen2
    simp only [stp] at hs
    split at hs
    case h_2 => cases hs
    case h_1 y x st2 =>
      cases hs
      exact lv_dup2_11 hx hb hd rfl rfl (kk H locs lsA cells slots (by omega) (by omega) hW hS hl)
  · have hlen2 : len = 3 := of_decide_eq_true hlen
    subst hlen2
    rename_i x e2
    simp only [stp] at hs
    split at hs
    case h_2 => cases hs
    case h_1 a st2 =>
      split at hs
      case h_2 => cases hs
      case h_1 ci fs ha hcell =>
        split at hs
        case isFalse => cases hs
        case isTrue hci =>
          split at hs
          case h_2 => cases hs
          case h_1 v hv =>
            cases hs
            subst hci
            have hin2 := ckF_in hc
            obtain ⟨hc11, hk⟩ := fl_lt hin2
            obtain ⟨hcl, -, -, hws⟩ := cls_ws _ hc11
            have he : (cw b base ca h.1 h.2.1)[a]? = some (ad b base a, .inr (e2 / 100 % 100, fs.map (cv b base))) := by rw [cw_get (of_decide_eq_true ha), hcell]; rfl
            have hv2 : (fs.map (cv b base))[e2 % 100]? = some (cv b base v) := by rw [List.getElem?_map, hv]; rfl
            rcases hin2 with hf | hf
            · exact va_get (ref := (fT (e2 / 100 % 100) (e2 % 100)).1) hx hb hts hws hown hK hP a he hcl (e2 % 100) hk (hts _ (fl_in hf)) (fun _ q => q) hv2 hd (kk H locs lsA cells slots (by omega) (by omega) hW hS hl)
            · exact va_getN (ref := (fT (e2 / 100 % 100) (e2 % 100)).1) (host := "BoxSpider") hx hb hts hws hown hK hP a he hcl (e2 % 100) hk (va_Nw.use rfl (hN.1 _ hf)) (fun _ q => q) hv2 hd (kk H locs lsA cells slots (by omega) (by omega) hW hS hl)
  · have hlen2 : len = 3 := of_decide_eq_true hlen
    subst hlen2
    rename_i x e2
    simp only [stp] at hs
    split at hs
    case h_2 => cases hs
    case h_1 v a st2 =>
      split at hs
      case h_2 => cases hs
      case h_1 ci fs ha hcell =>
        split at hs
        case isFalse => cases hs
        case isTrue hci =>
          obtain ⟨hci, hfl, hvo⟩ := hci
          cases hs
          subst hci
          simp only [Bool.and_eq_true] at hc
          obtain ⟨hc, hfin⟩ := hc
          have hin2 := ckF_in hc
          obtain ⟨hc11, hk⟩ := fl_lt hin2
          obtain ⟨hcl, -, -, hws⟩ := cls_ws _ hc11
          have he : (cw b base ca h.1 h.2.1)[a]? = some (ad b base a, .inr (e2 / 100 % 100, fs.map (cv b base))) := by rw [cw_get (of_decide_eq_true ha), hcell]; rfl
          obtain ⟨hn1, hn2⟩ := vok_ok (b := b) (base := base) hc11 hk hvo
          have hset : (cw b base ca h.1 h.2.1).set a (ad b base a, .inr (e2 / 100 % 100, (fs.map (cv b base)).set (e2 % 100) (cv b base v))) = cw b base ca (va_up h.1 a (.inr (e2 / 100 % 100, fs.set (e2 % 100) v))) h.2.1 := by
            rw [← List.map_set]
            exact cw_set (.inr (e2 / 100 % 100, fs.set (e2 % 100) v))
          have hfl2 : e2 % 100 < (fs.map (cv b base)).length := by rw [List.length_map]; exact hfl
          cases hf0 : (fT (e2 / 100 % 100) (e2 % 100)).2.2.2 with
          | true =>
            rw [hf0] at hfin
            simp only [Bool.not_true, Bool.false_or, Bool.and_eq_true, decide_eq_true_eq] at hfin
            obtain ⟨⟨hf1, hf2⟩, hf3⟩ := hfin
            exact va_putF (ref := (fT (e2 / 100 % 100) (e2 % 100)).1) hx hb hts hws (fty (e2 / 100 % 100)) (fty_ok _ hc11) (fnm_ok _ hc11) hown hK hP hD hS a he hcl (e2 % 100) hk (hts _ (fl_in (ckF_nn hc hf2))) (fun _ q => q) hf0 (hin hf1) hf3 (fty_ok _ hc11 _ hk) hn1 hn2 hfl2 hd (fun H1 locs1 hP1 hD1 hS1 => kk H1 locs1 lsA cells slots (by dsimp only; omega) (by dsimp only; omega) ⟨hz9, by rw [hset] at hP1; exact hP1⟩ hS1 hl)
          | false =>
            rcases hin2 with hf | hf
            · exact va_put (ref := (fT (e2 / 100 % 100) (e2 % 100)).1) hx hb hts hws (fty (e2 / 100 % 100)) (fty_ok _ hc11) (fnm_ok _ hc11) hown hK hP hD hS a he hcl (e2 % 100) hk (hts _ (fl_in hf)) (fun _ q => q) hf0 (fty_ok _ hc11 _ hk) hn1 hn2 hfl2 hd (fun H1 locs1 hP1 hD1 hS1 => kk H1 locs1 lsA cells slots (by dsimp only; omega) (by dsimp only; omega) ⟨hz9, by rw [hset] at hP1; exact hP1⟩ hS1 hl)
            · exact va_putN (ref := (fT (e2 / 100 % 100) (e2 % 100)).1) (host := "BoxSpider") hx hb hts hws (fty (e2 / 100 % 100)) (fty_ok _ hc11) (fnm_ok _ hc11) hown hK hP hD hS a he hcl (e2 % 100) hk (va_Nw.use rfl (hN.1 _ hf)) (fun _ q => q) hf0 (fty_ok _ hc11 _ hk) hn1 hn2 hfl2 hd (fun H1 locs1 hP1 hD1 hS1 => kk H1 locs1 lsA cells slots (by dsimp only; omega) (by dsimp only; omega) ⟨hz9, by rw [hset] at hP1; exact hP1⟩ hS1 hl)
  · have hlen2 : len = 1 := of_decide_eq_true hlen
    subst hlen2
    simp only [stp] at hs
    split at hs
    case h_2 => cases hs
    case h_1 j a st2 =>
      split at hs
      case isTrue ha =>
        subst ha
        split at hs
        case h_2 => cases hs
        case h_1 n f =>
          split at hs
          case isFalse => cases hs
          case isTrue hj =>
            cases hs
            obtain ⟨hX, hbb⟩ := hscr n f rfl
            exact va_sld hx hb hX (Nat.lt_of_lt_of_le hbb hbs) (Nat.not_le.mpr hbb) hS (inb_in hj) hd (kk H locs lsA cells slots (by omega) (by omega) hW hS hl)
      case isFalse =>
        split at hs
        case h_2 => cases hs
        case h_1 n f ha hcell =>
          split at hs
          case isFalse => cases hs
          case isTrue hj =>
            cases hs
            have he : (cw b base ca h.1 h.2.1)[a]? = some (ad b base a, .inl (ca 0, n, .inl f)) := by rw [cw_get (of_decide_eq_true ha), hcell]; rfl
            exact va_iald hx hb hK hP a 0 he rfl (inb_in hj) hd (kk H locs lsA cells slots (by omega) (by omega) hW hS hl)
  · have hlen2 : len = 1 := of_decide_eq_true hlen
    subst hlen2
    simp only [stp] at hs
    split at hs
    case h_2 => cases hs
    case h_1 x j a st2 =>
      split at hs
      case h_2 => cases hs
      case h_1 n f ha hcell =>
        split at hs
        case isFalse => cases hs
        case isTrue hj =>
          cases hs
          have he : (cw b base ca h.1 h.2.1)[a]? = some (ad b base a, .inl (ca 0, n, .inl f)) := by rw [cw_get (of_decide_eq_true ha), hcell]; rfl
          have hset : (cw b base ca h.1 h.2.1).set a (ad b base a, .inl (ca 0, n, .inl (upd f j.toNatClampNeg x))) = cw b base ca (va_up h.1 a (.inl (0, n, .inl (upd f j.toNatClampNeg x)))) h.2.1 := cw_set (.inl (0, n, .inl (upd f j.toNatClampNeg x)))
          exact va_iast hx hb hK hP hD hS a 0 he rfl (inb_in hj) hd (fun H1 locs1 hP1 hD1 hS1 => kk H1 locs1 lsA cells slots (by dsimp only; omega) (by dsimp only; omega) ⟨hz9, by rw [hset] at hP1; exact hP1⟩ hS1 hl)
  · have hlen2 : len = 1 := of_decide_eq_true hlen
    subst hlen2
    simp only [stp] at hs
    split at hs
    case h_2 => cases hs
    case h_1 j a st2 =>
      split at hs
      case h_2 => cases hs
      case h_1 t n f ha hcell =>
        split at hs
        case isFalse => cases hs
        case isTrue hj =>
          obtain ⟨hj, ht⟩ := hj
          split at hs
          case h_2 => cases hs
          case h_1 b2 hb2 =>
            cases hs
            have he : (cw b base ca h.1 h.2.1)[a]? = some (ad b base a, .inl (ca t, n, .inr (.inr (.inr (.inr (fun j => (f j).map (ad b base))))))) := by rw [cw_get (of_decide_eq_true ha), hcell]; rfl
            have kk2 := (kk H locs lsA cells slots (by omega) (by omega) hW hS hl)
            have hv : Value.ref (ad b base b2) = va_rf ((fun j => (f j).map (ad b base)) j.toNatClampNeg) := by show _ = va_rf ((f j.toNatClampNeg).map (ad b base)); rw [hb2]; rfl
            have kk3 : W p l e R s m args below meth c H locs cells slots Q (F0 m (pc + 1) lsA (va_rf ((fun j => (f j).map (ad b base)) j.toNatClampNeg) :: st2.map (cv b base))) := by rw [← hv]; exact kk2
            rcases ht with rfl | rfl
            · exact va_aldq hx hb hK hP a 1 he rfl (inb_in hj) hd kk3
            · exact va_aldq hx hb hK hP a 2 he rfl (inb_in hj) hd kk3
  · have hlen2 : len = 1 := of_decide_eq_true hlen
    subst hlen2
    simp only [stp] at hs
    split at hs
    case h_2 => cases hs
    case h_1 b2 j a st2 =>
      split at hs
      case h_2 => cases hs
      case h_1 t n f ci vs ha hcell hb2 hcell2 =>
        split at hs
        case isFalse => cases hs
        case isTrue hj =>
          obtain ⟨hj, ht⟩ := hj
          cases hs
          have he : (cw b base ca h.1 h.2.1)[a]? = some (ad b base a, .inl (ca t, n, .inr (.inr (.inr (.inr (fun j => (f j).map (ad b base))))))) := by rw [cw_get (of_decide_eq_true ha), hcell]; rfl
          have he2 : (cw b base ca h.1 h.2.1)[b2]? = some (ad b base b2, .inr (ci, vs.map (cv b base))) := by rw [cw_get (of_decide_eq_true hb2), hcell2]; rfl
          rcases ht with ⟨rfl, rfl⟩ | ⟨rfl, rfl⟩
          · have hset : (cw b base ca h.1 h.2.1).set a (ad b base a, .inl (ca 1, n, .inr (.inr (.inr (.inr (va_up (fun j => (f j).map (ad b base)) j.toNatClampNeg (some (ad b base b2)))))))) = cw b base ca (va_up h.1 a (.inl (1, n, .inr (.inr (.inr (.inr (va_up f j.toNatClampNeg (some b2)))))))) h.2.1 := by
              have e1 : va_up (fun j => (f j).map (ad b base)) j.toNatClampNeg (some (ad b base b2)) = fun q => (va_up f j.toNatClampNeg (some b2) q).map (ad b base) := by
                funext q
                unfold va_up
                split <;> rfl
              rw [e1]
              exact cw_set (.inl (1, n, .inr (.inr (.inr (.inr (va_up f j.toNatClampNeg (some b2)))))))
            exact va_astq hx hb hK hP hD hS a 1 b2 6 he (r := (cn 6, fT 6, fN 6)) rfl he2 (cls_ws 6 (by decide)).1 (inb_in hj) hd (fun H1 locs1 hP1 hD1 hS1 => kk H1 locs1 lsA cells slots (by dsimp only; omega) (by dsimp only; omega) ⟨hz9, by rw [hset] at hP1; exact hP1⟩ hS1 hl)
          · have hset : (cw b base ca h.1 h.2.1).set a (ad b base a, .inl (ca 2, n, .inr (.inr (.inr (.inr (va_up (fun j => (f j).map (ad b base)) j.toNatClampNeg (some (ad b base b2)))))))) = cw b base ca (va_up h.1 a (.inl (2, n, .inr (.inr (.inr (.inr (va_up f j.toNatClampNeg (some b2)))))))) h.2.1 := by
              have e1 : va_up (fun j => (f j).map (ad b base)) j.toNatClampNeg (some (ad b base b2)) = fun q => (va_up f j.toNatClampNeg (some b2) q).map (ad b base) := by
                funext q
                unfold va_up
                split <;> rfl
              rw [e1]
              exact cw_set (.inl (2, n, .inr (.inr (.inr (.inr (va_up f j.toNatClampNeg (some b2)))))))
            exact va_astq hx hb hK hP hD hS a 2 b2 4 he (r := (cn 4, fT 4, fN 4)) rfl he2 (cls_ws 4 (by decide)).1 (inb_in hj) hd (fun H1 locs1 hP1 hD1 hS1 => kk H1 locs1 lsA cells slots (by dsimp only; omega) (by dsimp only; omega) ⟨hz9, by rw [hset] at hP1; exact hP1⟩ hS1 hl)
  · have hlen2 : len = 1 := of_decide_eq_true hlen
    subst hlen2
    simp only [stp] at hs
    split at hs
    case h_2 => cases hs
    case h_1 a st2 =>
      split at hs
      case isFalse => cases hs
      case isTrue ha =>
        subst ha
        split at hs
        case h_2 => cases hs
        case h_1 n f =>
          cases hs
          obtain ⟨hX, hbb⟩ := hscr n f rfl
          exact va_slen hx hb hX (Nat.lt_of_lt_of_le hbb hbs) (Nat.not_le.mpr hbb) hS hd (kk H locs lsA cells slots (by omega) (by omega) hW hS hl)
  · have hlen2 : len = 3 := of_decide_eq_true hlen
    subst hlen2
    rename_i x e2
    simp only [stp] at hs
    split at hs
    case isFalse => cases hs
    case isTrue hlt =>
      cases hs
      simp only [Bool.and_eq_true, decide_eq_true_eq] at hc
      obtain ⟨hcl2, hc11⟩ := hc
      obtain ⟨hcl, hini, hins, hws⟩ := cls_ws _ hc11
      dsimp only at hcells hslots
      refine va_new (ci := e2 % 100) (fs := dfl (e2 % 100)) hx hb hts hws (fty (e2 % 100)) (fty_ok _ hc11) hown (hts _ (kcl_in (List.mem_of_getElem? hcl2))) (hts _ hins) (hts _ hini) hK hP hD hS hA hcl (dfl_ok _ hc11).2 (by omega) (by omega) hd (fun q H1 hP1 hD1 hS1 => ?_)
      refine W.sz fun hsz => ?_
      have hq := new_at hlt hP1 hD1 hsz (by omega)
      subst hq
      have hset : cw b base ca h.1 h.2.1 ++ [(ad b base h.2.1, .inr (e2 % 100, dfl (e2 % 100)))] = cw b base ca (va_up h.1 h.2.1 (.inr (e2 % 100, dfl (e2 % 100)))) (h.2.1 + 1) := by
        have e1 : (dfl (e2 % 100)).map (cv b base) = dfl (e2 % 100) := dfl_cv b base _ hc11
        have e3 := cw_push (b := b) (base := base) (ca := ca) (h := h.1) (sz := h.2.1) (.inr (e2 % 100, dfl (e2 % 100)))
        have e4 : ce b base ca (.inr (e2 % 100, dfl (e2 % 100))) = .inr (e2 % 100, dfl (e2 % 100)) := by show Sum.inr (e2 % 100, (dfl (e2 % 100)).map (cv b base)) = _; rw [e1]
        rw [e4] at e3
        exact e3
      exact kk H1 locs lsA (cells + 1) (slots + fN (e2 % 100)) (by dsimp only; omega) (by dsimp only; omega) ⟨by dsimp only; omega, by rw [hset] at hP1; exact hP1⟩ hS1 hl
  · have hlen2 : len = 2 := of_decide_eq_true hlen
    subst hlen2
    simp only [stp] at hs
    split at hs
    case h_2 => cases hs
    case h_1 n st2 =>
      split at hs
      case isFalse => cases hs
      case isTrue hn =>
        obtain ⟨hn, hlt⟩ := hn
        cases hs
        obtain ⟨hn0, hnb⟩ := inb_n hn
        dsimp only at hcells hslots
        refine va_newa (atype := .int) (ty := .int) (a0 := (n.toNatClampNeg, .inl (fun _ => 0))) hx hb (hts _ aint_in) rfl hK hP hD hS hA (fun _ => rfl) hn0 rfl hnb (by omega) (by omega) hd (fun q cA H1 hK1 hP1 hD1 hS1 => ?_)
        refine W.sz fun hsz => ?_
        have hcA : cA = ca 0 := by
          have e1 := (hK1.2 3 (cA, .int) rfl).2
          have e2 := (hK1.2 0 (ca 0, .int) rfl).2
          exact Option.some.inj ((show s.vm.findClass ("[" ++ FieldType.int.toString) = some cA from e1).symm.trans e2)
        subst hcA
        have hq := new_at hlt hP1 hD1 hsz (by omega)
        subst hq
        have hset : cw b base ca h.1 h.2.1 ++ [(ad b base h.2.1, .inl (ca 0, n.toNatClampNeg, .inl (fun _ => 0)))] = cw b base ca (va_up h.1 h.2.1 (.inl (0, n.toNatClampNeg, .inl (fun _ => 0)))) (h.2.1 + 1) := cw_push (.inl (0, n.toNatClampNeg, .inl (fun _ => 0)))
        exact kk H1 locs lsA (cells + 1) (slots + n.toNatClampNeg) (by dsimp only; omega) (by dsimp only; omega) ⟨by dsimp only; omega, by rw [hset] at hP1; exact hP1⟩ hS1 hl
  · have hlen2 : len = 3 := of_decide_eq_true hlen
    subst hlen2
    rename_i x e2
    simp only [stp] at hs
    split at hs
    case h_2 => cases hs
    case h_1 n st2 =>
      split at hs
      case isFalse => cases hs
      case isTrue hn =>
        obtain ⟨hn, hlt⟩ := hn
        obtain ⟨hn0, hnb⟩ := inb_n hn
        simp only [Bool.and_eq_true, Bool.or_eq_true, decide_eq_true_eq] at hc
        obtain ⟨hcl2, h6⟩ := hc
        rcases h6 with h6 | h6
        · rw [if_pos h6] at hs
          cases hs
          dsimp only at hcells hslots
          refine va_newq (C := "BoxSpider$Stand") hx hb hown (hts _ (by have e9 := kcl_in (List.mem_of_getElem? hcl2); rw [h6] at e9; exact e9)) hN.2.2.1 hK hP hD hS hA hn0 rfl hnb (by omega) (by omega) hd (fun q cA H1 hK1 hP1 hD1 hS1 => ?_)
          refine W.sz fun hsz => ?_
          have hcA : cA = ca 1 := by
            obtain ⟨_, _, _, _, _, e1⟩ := (hK1.2 3 (cA, .object "BoxSpider$Stand") rfl).2
            obtain ⟨_, _, _, _, _, e2⟩ := (hK1.2 1 (ca 1, .object "BoxSpider$Stand") rfl).2
            exact Option.some.inj (e1.symm.trans e2)
          subst hcA
          have hq := new_at hlt hP1 hD1 hsz (by omega)
          subst hq
          have hset : cw b base ca h.1 h.2.1 ++ [(ad b base h.2.1, .inl (ca 1, n.toNatClampNeg, .inr (.inr (.inr (.inr (fun _ => none))))))] = cw b base ca (va_up h.1 h.2.1 (.inl (1, n.toNatClampNeg, .inr (.inr (.inr (.inr (fun _ => none))))))) (h.2.1 + 1) := cw_push (.inl (1, n.toNatClampNeg, .inr (.inr (.inr (.inr (fun _ => none))))))
          exact kk H1 locs lsA (cells + 1) (slots + n.toNatClampNeg) (by dsimp only; omega) (by dsimp only; omega) ⟨by dsimp only; omega, by rw [hset] at hP1; exact hP1⟩ hS1 hl
        · rw [if_neg (by omega)] at hs
          cases hs
          dsimp only at hcells hslots
          refine va_newq (C := "BoxSpider$Sheet") hx hb hown (hts _ (by have e9 := kcl_in (List.mem_of_getElem? hcl2); rw [h6] at e9; exact e9)) hN.2.2.2 hK hP hD hS hA hn0 rfl hnb (by omega) (by omega) hd (fun q cA H1 hK1 hP1 hD1 hS1 => ?_)
          refine W.sz fun hsz => ?_
          have hcA : cA = ca 2 := by
            obtain ⟨_, _, _, _, _, e1⟩ := (hK1.2 3 (cA, .object "BoxSpider$Sheet") rfl).2
            obtain ⟨_, _, _, _, _, e2⟩ := (hK1.2 2 (ca 2, .object "BoxSpider$Sheet") rfl).2
            exact Option.some.inj (e1.symm.trans e2)
          subst hcA
          have hq := new_at hlt hP1 hD1 hsz (by omega)
          subst hq
          have hset : cw b base ca h.1 h.2.1 ++ [(ad b base h.2.1, .inl (ca 2, n.toNatClampNeg, .inr (.inr (.inr (.inr (fun _ => none))))))] = cw b base ca (va_up h.1 h.2.1 (.inl (2, n.toNatClampNeg, .inr (.inr (.inr (.inr (fun _ => none))))))) (h.2.1 + 1) := cw_push (.inl (2, n.toNatClampNeg, .inr (.inr (.inr (.inr (fun _ => none))))))
          exact kk H1 locs lsA (cells + 1) (slots + n.toNatClampNeg) (by dsimp only; omega) (by dsimp only; omega) ⟨by dsimp only; omega, by rw [hset] at hP1; exact hP1⟩ hS1 hl
  · simp only [stp] at hs
    cases hs
  · simp only [stp] at hs
    cases hs
  · simp only [stp] at hs
    cases hs
  · simp only [stp] at hs
    cases hs
  · simp only [stp] at hs
    cases hs
  · simp only [stp] at hs
    cases hs
  · simp only [stp] at hs
    cases hs
  · simp only [stp] at hs
    cases hs
  · simp only [stp] at hs
    cases hs
  · simp only [stp] at hs
    cases hs
  · simp only [stp] at hs
    cases hs
  · cases hc
end
section
theorem stp_mono {scr : Option (Nat × (Nat → Int32))} {i : Instr} {nL : Nat} {ls ls' : LSt} {st st' : List Value} {h h' : HS} (hs : stp scr i nL ls st h = some (ls', st', h')) : h.2.1 ≤ h'.2.1 ∧ h.2.2 ≤ h'.2.2 := by
  unfold stp at hs
  split at hs <;> (repeat' split at hs) <;> first | (cases hs; done) | (cases hs; exact ⟨Nat.le_refl _, Nat.le_refl _⟩) | (cases hs; dsimp only; omega)
theorem own5_mono {k : Nat} {st st' : List Value} {h h' : HS} (hs : own5 k st h = some (st', h')) : h'.2 = h.2 := by
  unfold own5 at hs
  (repeat' split at hs) <;> first | (cases hs; done) | (cases hs; rfl)
theorem run_mono : ∀ (f d : Nat) (scr : Option (Nat × (Nat → Int32))) (m pc : Nat) (ls : LSt) (st : List Value) (h : HS) (r : Option Value) (h' : HS), run f d scr m pc ls st h = some (r, h') → h.2.1 ≤ h'.2.1 ∧ h.2.2 ≤ h'.2.2 := by
  intro f
  induction f with
  | zero =>
    intro d scr m pc ls st h r h' hr
    cases hr
  | succ f ih =>
    intro d scr m pc ls st h r h' hr
    have hcall : ∀ (np : Nat) (k na : Nat) (rc : Bool), (match (generalizing := false) d with
        | 0 => none
        | d + 1 => if na ≤ st.length ∧ k < nMeth ∧ ((st.drop na).map fun v => v.category).sum ≤ 8 ∧ (((st.take na).reverse).map fun v => v.category).sum ≤ ML k ∧ (rc = true → rcv k (st.take na).reverse h = true) then
            match run f d none k 0 (lv_args 0 (st.take na).reverse) [] h with
            | some (r, h') => run f (d + 1) scr m np ls (r.toList ++ st.drop na) h'
            | none => none
          else none) = some (r, h') → h.2.1 ≤ h'.2.1 ∧ h.2.2 ≤ h'.2.2 := by
      intro np k na rc hq
      split at hq
      · cases hq
      · split at hq
        · split at hq
          · rename_i r1 h1 e1
            have a1 := ih _ _ _ _ _ _ _ _ _ e1
            have a2 := ih _ _ _ _ _ _ _ _ _ hq
            exact ⟨Nat.le_trans a1.1 a2.1, Nat.le_trans a1.2 a2.2⟩
          · cases hq
        · cases hq
    have hown : ∀ (np k : Nat), (if d = 0 then none else match own5 k st h with
        | some (st', h') => run f d scr m np ls st' h'
        | none => none) = some (r, h') → h.2.1 ≤ h'.2.1 ∧ h.2.2 ≤ h'.2.2 := by
      intro np k hq
      split at hq
      · cases hq
      · split at hq
        · rename_i st1 h1 e1
          have a1 := own5_mono e1
          have a2 := ih _ _ _ _ _ _ _ _ _ hq
          rw [a1] at a2
          exact a2
        · cases hq
    unfold run at hr
    split at hr
    · cases hr
    · rename_i i np hi
      dsimp only at hr
      split at hr
      · (repeat' split at hr) <;> first | (cases hr; done) | (cases hr; exact ⟨Nat.le_refl _, Nat.le_refl _⟩)
      · (repeat' split at hr) <;> first | (cases hr; done) | (cases hr; exact ⟨Nat.le_refl _, Nat.le_refl _⟩)
      · (repeat' split at hr) <;> first | (cases hr; done) | (cases hr; exact ⟨Nat.le_refl _, Nat.le_refl _⟩)
      · exact ih _ _ _ _ _ _ _ _ _ hr
      · (repeat' split at hr) <;> first | (cases hr; done) | exact ih _ _ _ _ _ _ _ _ _ hr
      · (repeat' split at hr) <;> first | (cases hr; done) | exact ih _ _ _ _ _ _ _ _ _ hr
      · (repeat' split at hr) <;> first | (cases hr; done) | exact ih _ _ _ _ _ _ _ _ _ hr
      · (repeat' split at hr) <;> first | (cases hr; done) | exact ih _ _ _ _ _ _ _ _ _ hr
      · exact hcall _ _ _ _ hr
      · split at hr
        · exact hcall _ _ _ _ hr
        · exact hown _ _ hr
      · split at hr
        · exact hcall _ _ _ _ hr
        · exact hown _ _ hr
      · split at hr
        · rename_i ls1 st1 h1 e1
          have a1 := stp_mono e1
          have a2 := ih _ _ _ _ _ _ _ _ _ hr
          exact ⟨Nat.le_trans a1.1 a2.1, Nat.le_trans a1.2 a2.2⟩
        · cases hr
/-- the methods' words -/
theorem all_at {P : Nat → Bool} {k : Nat} (h : (List.range nMeth).all P = true) (hk : k < nMeth) : P k = true := List.all_eq_true.mp h k (List.mem_range.mpr hk)
theorem m_stat {k : Nat} (hk : k < nMeth) (hx : MX k = true) : Cond.static (MN k) ∈ GT := by
  have h := all_at im_ok hk
  rw [hx, if_pos rfl] at h
  exact tSM_in (of_decide_eq_true h)
theorem m_inst {k : Nat} (hk : k < nMeth) (hx : MX k = false) : Cond.instanceMethod (MN k) ∈ GT := by
  have h := all_at im_ok hk
  rw [hx, if_neg (by decide)] at h
  exact tIM_in (of_decide_eq_true h)
theorem m_sel {k : Nat} (hk : k < nMeth) (hx : MX k = false) (hi : isInit k = false) : Cond.selects (MN k).cls (MN k) (MN k) ∈ GT := by
  have h := all_at se_ok hk
  have hi' : ((mS.getD k ("", "")).1 == "<init>") = false := hi
  rw [hx, hi', Bool.false_or, Bool.false_or] at h
  exact tSe_in (of_decide_eq_true h)
theorem m_init {k : Nat} (hk : k < nMeth) : Cond.initialized (MN k).cls ∈ GT := tIn_in (of_decide_eq_true (all_at in_ok hk))
theorem m_par {k : Nat} (hk : k < nMeth) : (parseMethodDescriptor (MN k).desc).map (fun d => d.parameters.length) = some (MP k) := of_decide_eq_true (all_at ds_ok1 hk)
theorem m_nm {k : Nat} (hk : k < nMeth) : (MN k).cls ≠ "java/lang/invoke/MethodHandle" ∧ (MN k).cls ≠ "java/lang/invoke/VarHandle" := by
  have h := all_at ds_ok2 hk
  rw [Bool.and_eq_true] at h
  exact ⟨of_decide_eq_true h.1, of_decide_eq_true h.2⟩
theorem m_plain {k : Nat} (hk : k < nMeth) : Jvm.plainName (MN k).cls = true := all_at ds_ok3 hk
theorem m_ml {k : Nat} (hk : k < nMeth) : ML k ≤ 40 := of_decide_eq_true (all_at ds_ok4 hk)
theorem m_good {k : Nat} (hk : k < nMeth) : GoodIn GT (wCode k :: GT) := fun w hw => by
  rcases List.mem_cons.mp hw with rfl | hw
  · exact ⟨code_in hk, GT_good _ (code_in hk)⟩
  · exact ⟨hw, GT_good w hw⟩
theorem m_x {k : Nat} (hk : k < nMeth) : MNx k = MN k := by
  have h : nMeth < 500 := by decide
  unfold MNx
  rw [if_neg (by omega), if_neg (by omega), if_neg (by omega), if_neg (by omega), if_neg (by omega)]
theorem ckM_in {o x e : Nat} (h : ckM o x e = true) : (o, x, e % 1000) ∈ mlk ∨ (o, x, e % 1000) ∈ nml := by
  unfold ckM at h
  split at h
  · exact Or.inl (List.mem_of_getElem? (of_decide_eq_true h))
  · exact Or.inr (List.mem_of_getElem? (of_decide_eq_true h))
theorem ckM_nn {o x e : Nat} (h : ckM o x e = true) (h0 : e / 1000000 = 0) : (o, x, e % 1000) ∈ mlk := by
  unfold ckM at h
  rw [if_pos h0] at h
  exact List.mem_of_getElem? (of_decide_eq_true h)
theorem ckE_inv {m pc np : Nat} {i : Instr} (h : ckE m (pc, i, np) = true) : ∃ (o : Instr) (len : Nat), decode (MB m) pc = .ok (o, len) ∧ pc + len = np ∧ (isw o || decide (len = ilen o)) = true ∧ chk m pc o i = true := by
  unfold ckE at h
  dsimp only at h
  split at h
  · rename_i o len hd
    simp only [Bool.and_eq_true, decide_eq_true_eq] at h
    exact ⟨o, len, hd, h.1.1, h.1.2, h.2⟩
  · cases h
end
section
set_option maxHeartbeats 4000000 in
theorem chk_goto {m pc : Nat} {o : Instr} {t : Int} (h : chk m pc o (.goto t) = true) : ∃ a : Int, o = .goto a ∧ (pc : Int) + a = t ∧ 0 ≤ t := by
  cases o <;> first | (simp [chk] at h; done) | (simp only [chk, Bool.and_eq_true, decide_eq_true_eq] at h; exact ⟨_, rfl, h⟩)
set_option maxHeartbeats 4000000 in
theorem chk_ifc {m pc : Nat} {o : Instr} {c : ClassFile.Cond} {t : Int} (h : chk m pc o (.ifCond c t) = true) : ∃ a : Int, o = .ifCond c a ∧ (pc : Int) + a = t ∧ 0 ≤ t := by
  cases o <;> first | (simp [chk] at h; done) | (simp only [chk, Bool.and_eq_true, decide_eq_true_eq] at h; obtain ⟨⟨rfl, h1⟩, h2⟩ := h; exact ⟨_, rfl, h1, h2⟩)
set_option maxHeartbeats 4000000 in
theorem chk_icm {m pc : Nat} {o : Instr} {c : ClassFile.Cond} {t : Int} (h : chk m pc o (.if_icmp c t) = true) : ∃ a : Int, o = .if_icmp c a ∧ (pc : Int) + a = t ∧ 0 ≤ t := by
  cases o <;> first | (simp [chk] at h; done) | (simp only [chk, Bool.and_eq_true, decide_eq_true_eq] at h; obtain ⟨⟨rfl, h1⟩, h2⟩ := h; exact ⟨_, rfl, h1, h2⟩)
set_option maxHeartbeats 4000000 in
theorem chk_iret {m pc : Nat} {o : Instr} (h : chk m pc o .ireturn = true) : o = .ireturn := by
  cases o <;> first | rfl | (simp [chk] at h; done)
set_option maxHeartbeats 4000000 in
theorem chk_lret {m pc : Nat} {o : Instr} (h : chk m pc o .lreturn = true) : o = .lreturn := by
  cases o <;> first | rfl | (simp [chk] at h; done)
set_option maxHeartbeats 4000000 in
theorem chk_vret {m pc : Nat} {o : Instr} (h : chk m pc o .return_ = true) : o = .return_ := by
  cases o <;> first | rfl | (simp [chk] at h; done)
set_option maxHeartbeats 4000000 in
theorem chk_tsw {m pc : Nat} {o : Instr} {t lo hi : Int} {ts : Array Int} (h : chk m pc o (.tableswitch t lo hi ts) = true) : ∃ (a : Int) (os : Array Int), o = .tableswitch a lo hi os ∧ (pc : Int) + a = t ∧ 0 ≤ t ∧ os.toList.map (fun o => (pc : Int) + o) = ts.toList ∧ ts.toList.all (fun t => decide (0 ≤ t)) = true := by
  cases o <;> first | (simp [chk] at h; done) | (simp only [chk, Bool.and_eq_true, decide_eq_true_eq] at h; obtain ⟨⟨⟨⟨⟨rfl, rfl⟩, h1⟩, h2⟩, h3⟩, h4⟩ := h; exact ⟨_, _, rfl, h1, h2, h3, h4⟩)
set_option maxHeartbeats 4000000 in
theorem chk_lsw {m pc : Nat} {o : Instr} {t : Int} {qs : Array (Int × Int)} (h : chk m pc o (.lookupswitch t qs) = true) : ∃ (a : Int) (ps : Array (Int × Int)), o = .lookupswitch a ps ∧ (pc : Int) + a = t ∧ 0 ≤ t ∧ ps.toList.map (fun q => (q.1, (pc : Int) + q.2)) = qs.toList ∧ qs.toList.all (fun q => decide (0 ≤ q.2)) = true ∧ (ps.toList.zip (ps.toList.drop 1)).all (fun (a, next) => a.1 < next.1) = true := by
  cases o <;> first | (simp [chk] at h; done) | (simp only [chk, Bool.and_eq_true, decide_eq_true_eq] at h; obtain ⟨⟨⟨⟨h1, h2⟩, h3⟩, h4⟩, h5⟩ := h; exact ⟨_, _, rfl, h1, h2, h3, h4, h5⟩)
set_option maxHeartbeats 4000000 in
theorem chk_inv {m pc : Nat} {o : Instr} {e : Nat} (h : chk m pc o (.invokevirtual e) = true) : ∃ x : Nat, o = .invokevirtual x ∧ ckM (mC.getD m 99) x e = true ∧ MX (e % 1000) = false ∧ isInit (e % 1000) = false ∧ e % 1000 < nMeth := by
  cases o <;> first | (simp [chk] at h; done) | (simp only [chk, Bool.and_eq_true, decide_eq_true_eq, Bool.not_eq_true'] at h; obtain ⟨⟨⟨h1, h2⟩, h3⟩, h4⟩ := h; exact ⟨_, rfl, h1, h2, h3, h4⟩)
set_option maxHeartbeats 4000000 in
theorem chk_ins {m pc : Nat} {o : Instr} {e : Nat} (h : chk m pc o (.invokespecial e) = true) : ∃ x : Nat, o = .invokespecial x ∧ ckM (mC.getD m 99) x e = true ∧ ((e / 1000000 = 0 ∧ e % 1000 = 500) ∨ (MX (e % 1000) = false ∧ isInit (e % 1000) = true ∧ e % 1000 < nMeth)) := by
  cases o <;> first | (simp [chk] at h; done) | (simp only [chk, Bool.and_eq_true, Bool.or_eq_true, decide_eq_true_eq, Bool.not_eq_true'] at h; obtain ⟨h1, h2⟩ := h; refine ⟨_, rfl, h1, ?_⟩; rcases h2 with ⟨h2, h3⟩ | ⟨⟨h2, h3⟩, h4⟩; (exact Or.inl ⟨by omega, h3⟩); exact Or.inr ⟨h2, h3, h4⟩)
set_option maxHeartbeats 4000000 in
theorem chk_inst {m pc : Nat} {o : Instr} {e : Nat} (h : chk m pc o (.invokestatic e) = true) : ∃ x : Nat, o = .invokestatic x ∧ ckM (mC.getD m 99) x e = true ∧ ((e / 1000000 = 0 ∧ 501 ≤ e % 1000) ∨ (MX (e % 1000) = true ∧ e % 1000 < nMeth)) := by
  cases o <;> first | (simp [chk] at h; done) | (simp only [chk, Bool.and_eq_true, Bool.or_eq_true, decide_eq_true_eq] at h; obtain ⟨h1, h2⟩ := h; refine ⟨_, rfl, h1, ?_⟩; rcases h2 with ⟨h2, h3⟩ | ⟨h2, h3⟩; (exact Or.inl ⟨by omega, h3⟩); exact Or.inr ⟨h2, h3⟩)
end
section
def retAt (k : Nat) (r : Option Value) (pc : Nat) : Prop := match r with
  | some (.int v) => decode (MB k) pc = .ok (.ireturn, 1) ∧ retZ k v = true
  | some (.long _) => decode (MB k) pc = .ok (.lreturn, 1) ∧ MR k = some .long
  | none => decode (MB k) pc = .ok (.return_, 1) ∧ MR k = none
  | _ => False
def SimAt (l : Launch) (f : Nat) : Prop := ∀ (d : Nat) (scr : Option (Nat × (Nat → Int32))) (k pc : Nat) (ls : LSt) (st : List Value) (h : HS) (r : Option Value) (h' : HS), run f d scr k pc ls st h = some (r, h') → k < 184 →
  ∀ (p : Program) (e : Env) (R : Room) (s : State) (m : MethodId) (args : Array Value) (below : List Frame) (meth : Method) (c : Code) (Q : State → Prop) (b base : Nat) (ca : Nat → ClassId) (D : va_G), Cx p s m args meth c k b base ca D scr → d ≤ R.frames → 60 * d ≤ R.locals →
  ∀ (H : Heap) (locs : List Loc) (lsA : Array Slot) (cells slots : Nat), Wd b base ca D h H → va_S (fun q : Nat => base ≤ q) s.heap H locs → lv_has lsA (ML k) (cl b base ls) → s.heap.size + cells = base + h.2.1 → cells + (h'.2.1 - h.2.1) ≤ R.cells → slots + (h'.2.2 - h.2.2) ≤ R.slots →
  (∀ (H' : Heap) (locs' : List Loc) (lsA' : Array Slot) (pc' cells' slots' : Nat), cells' = cells + (h'.2.1 - h.2.1) → slots' = slots + (h'.2.2 - h.2.2) → Wd b base ca D h' H' → va_S (fun q : Nat => base ≤ q) s.heap H' locs' → retAt k r pc' → W p l e R s m args below meth c H' locs' cells' slots' Q (F0 m pc' lsA' r.toList)) →
  W p l e R s m args below meth c H locs cells slots Q (F0 m pc lsA (st.map (cv b base)))
def Pcx (b base : Nat) (ca : Nat → ClassId) (D : va_G) (as : List Value) (h : HS) : Array Value → State → Prop := va_Pc (as.map (cv b base)) (fun U => U.heap.size = base + h.2.1 ∧ Wd b base ca D h U.heap ∧ va_K D vwCl (tysOf ca) U ∧ NWd U)
def Qcx (b base : Nat) (ca : Nat → ClassId) (D : va_G) (r : Option Value) (h' : HS) : Array Value → State → Outcome → State → Prop := fun _ st oc t => oc = .returned (r.map (cv b base)) ∧ Wd b base ca D h' t.heap ∧ st.heap.size ≤ t.heap.size ∧ ∀ q : Nat, q < base → t.heap[q]? = st.heap[q]?
set_option maxHeartbeats 4000000 in
theorem met_of {l : Launch} {f : Nat} (IH : SimAt l f) {d k : Nat} {as : List Value} {h h' : HS} {r : Option Value} (hrun : run f d none k 0 (lv_args 0 as) [] h = some (r, h')) (hk : k < nMeth) (hsum : (as.map fun v => v.category).sum ≤ ML k) (b base : Nat) (ca : Nat → ClassId) (D : va_G) :
    Met l (MN k) (wCode k :: GT) ({ frames := d, cells := h'.2.1 - h.2.1, slots := h'.2.2 - h.2.2, locals := 60 * d } : Room) (Pcx b base ca D as h) (Qcx b base ca D r h') (h'.2.1 - h.2.1) (h'.2.2 - h.2.2) (fun q : Nat => base ≤ q) := by
  refine Met.ofW (cc := MB k) (maxL := ML k) (ret := MR k) (m_plain hk) rfl ?_
  intro p e s m args below meth c s₁ B hml hv
  obtain ⟨rfl, hsz, hW, hK, hN⟩ := hv
  have hts := atoms_spec (ws := wCode k :: GT) B.pre
  have hlocks := B.notSynchronized
  have hx := B.exec
  have hb := B.bytes
  have hr : meth.sig.returnType = MR k := B.returns
  have C : Cx p s m (as.map (cv b base)).toArray meth c k b base ca D none := ⟨hx, hb, hml, findClass_of_methodNamed B.named, fun w hw => hts w (List.mem_cons_of_mem _ hw), hN, hK, fun hi => by
    have h1 : meth.name = (MN k).name := (name_of_methodNamed B.named B.method).1
    rw [h1]
    exact eq_of_beq hi, by omega, fun n f h => by cases h⟩
  have hl := lv_entry (as.map (cv b base)) (n := ML k) (by rw [sl_len, cv_sum]; exact hsum)
  rw [← cl_args] at hl
  rw [lg_entry_eq]
  have h184 : k < 184 := Nat.lt_trans hk (by decide)
  refine IH d none k 0 (lv_args 0 as) [] h r h' hrun h184 p e _ s m _ below meth c _ b base ca D C (Nat.le_refl _) (Nat.le_refl _) s.heap [] _ 0 0 hW va_S.rf hl (by omega) (Nat.le_of_eq (Nat.zero_add _)) (Nat.le_of_eq (Nat.zero_add _)) ?_
  intro H' locs' lsA' pc' cells' slots' e1 e2 hW' hS' hret
  rw [Nat.zero_add] at e1 e2
  subst e1
  subst e2
  have hq : ∀ t : State, t.heap = H' → s.WarmedH t.vm → Qcx b base ca D r h' (as.map (cv b base)).toArray s (.returned (r.map (cv b base))) t := fun t ht _ => ⟨rfl, by rw [ht]; exact hW', by rw [ht]; exact hS'.1, fun q hq => by rw [ht]; exact hS'.2.1 q (by omega) (by omega)⟩
  unfold retAt at hret
  split at hret
  · rename_i v
    obtain ⟨hd, hz⟩ := hret
    unfold retZ at hz
    split at hz
    · rename_i he
      have hn : narrow .boolean (.int v) = .int v := by
        simp only [Bool.or_eq_true, decide_eq_true_eq] at hz
        rcases hz with rfl | rfl <;> rfl
      exact W.zret hx hb (hr.trans he) hn hq hS'.2.2 hd
    · rename_i he
      exact W.iret hx hb (hr.trans he) hq hS'.2.2 hd
    · cases hz
  · rename_i v
    exact W.lret hx hb (hr.trans hret.2) hq hS'.2.2 hret.1
  · exact W.vret hx hb (hr.trans hret.2) hq hS'.2.2 hret.1
  · exact hret.elim
theorem Pcx_blind {b base : Nat} {ca : Nat → ClassId} {D : va_G} {as : List Value} {h : HS} : FrameBlind (Pcx b base ca D as h) := fun a U g mk q => by
  obtain ⟨q0, q1, q2, q3, q4⟩ := q
  exact ⟨q0, q1, q2, va_K.moved (u := U) (U := U.calling g mk a) (Vm.Alike.refl U.vm) q3, q4.same rfl⟩
theorem call_go {p : Program} {l : Launch} {e : Env} {R : Room} {s : State} {m : MethodId} {args : Array Value} {below : List Frame} {meth : Method} {c : Code} {Q : State → Prop} {b base : Nat} {ca : Nat → ClassId} {D : va_G} {H : Heap} {locs : List Loc} {lsA : Array Slot} {cells slots mc ms pc : Nat} {st0 rest : List Value} {r1 : Option Value} {h1 : HS} {a : Array Value}
    (hr : va_Run p l e R s m args below meth c H locs cells slots mc ms (F0 m pc lsA st0) rest (Qcx b base ca D r1 h1 a) (fun q : Nat => base ≤ q)) (hS : va_S (fun q : Nat => base ≤ q) s.heap H locs) (hbs : base ≤ s.heap.size)
    (kk : ∀ (H1 : Heap) (locs1 : List Loc), Wd b base ca D h1 H1 → va_S (fun q : Nat => base ≤ q) s.heap H1 locs1 → W p l e R s m args below meth c H1 locs1 (cells + mc) (slots + ms) Q (F0 m (pc + 3) lsA ((r1.map (cv b base)).toList ++ rest))) : W p l e R s m args below meth c H locs cells slots Q (F0 m pc lsA st0) := by
  intro T hT X
  obtain ⟨v, st₀, t, T', L, h0, X', hL, e1, e2, ⟨hv, hw, hz, hk⟩, st⟩ := hr T hT X
  cases hv
  rw [h0] at hz hk
  obtain ⟨t2, a1, b1⟩ := kk T'.heap (locs ++ L) (by rw [e1]; exact hw) ⟨Nat.le_trans hS.1 (by rw [e1]; exact hz), fun q h2 h3 => by rw [e1, hk q (Nat.not_le.mp h3)]; exact hS.2.1 q h2 h3, fun q hq => by
    rcases List.mem_append.mp hq with h | h
    · exact hS.2.2 q h
    · exact hL q h⟩ T' rfl X'
  exact ⟨t2, st t2 a1, b1⟩
theorem stk_split {b base na : Nat} {st as : List Value} (h : (st.take na).reverse = as) : st.map (cv b base) = (as.map (cv b base)).reverse ++ (st.drop na).map (cv b base) := by
  rw [← h, List.map_reverse, List.reverse_reverse, ← List.map_append, List.take_append_drop]
end
section
theorem obj_nm : MNx 500 = Lib.objectInit := by decide
theorem cpy_nm : MNx 501 = arraycopyName := by decide
theorem min_nm : MNx 502 = Lib.Math.min.name := by decide
theorem max_nm : MNx 503 = Lib.Math.max.name := by decide
theorem abs_nm : MNx 504 = Lib.Math.abs.name := by decide
theorem tcl {n : Int32} (h : 0 ≤ n.toInt) : ¬ n < 0 ∧ (n.toNatClampNeg : Int) = n.toInt := by
  have h2 : n.toNatClampNeg = n.toInt.toNat := rfl
  refine ⟨fun q => ?_, by omega⟩
  have := Int32.lt_iff_toInt_lt.mp q
  have h0 : (0 : Int32).toInt = 0 := rfl
  omega
set_option maxHeartbeats 4000000 in
/-- the machine's own methods -/
theorem own5_sim {p : Program} {l : Launch} {e : Env} {R : Room} {s : State} {m : MethodId} {args : Array Value} {below : List Frame} {meth : Method} {c : Code} {Q : State → Prop} {k b base : Nat} {ca : Nat → ClassId} {D : va_G} {scr : Option (Nat × (Nat → Int32))} (C : Cx p s m args meth c k b base ca D scr)
    {pc x q : Nat} {st st' : List Value} {h h' : HS} (hs : own5 q st h = some (st', h')) (hlk : (mC.getD k 99, x, q) ∈ mlk) (hd : (q = 500 ∧ decode (MB k) pc = .ok (.invokespecial x, 3)) ∨ (501 ≤ q ∧ decode (MB k) pc = .ok (.invokestatic x, 3))) (hfr : 1 ≤ R.frames) (hlo : 60 ≤ R.locals) {H : Heap} {locs : List Loc} {lsA : Array Slot} {cells slots : Nat} {lv : LSt} (hW : Wd b base ca D h H) (hS : va_S (fun q : Nat => base ≤ q) s.heap H locs) (hl : lv_has lsA (ML k) lv) (hcells : cells ≤ R.cells) (hslots : slots ≤ R.slots)
    (kk : ∀ (H' : Heap) (locs' : List Loc), Wd b base ca D h' H' → va_S (fun q : Nat => base ≤ q) s.heap H' locs' → W p l e R s m args below meth c H' locs' cells slots Q (F0 m (pc + 3) lsA (st'.map (cv b base)))) :
    W p l e R s m args below meth c H locs cells slots Q (F0 m pc lsA (st.map (cv b base))) := by
  obtain ⟨hx, hb, hml, hown, hts, hN, hK, hin, hbs, hscr⟩ := C
  obtain ⟨hz9, hP⟩ := id hW
  have hD : va_D (fun q : Nat => base ≤ q) (cw b base ca h.1 h.2.1) := cw_D hz9
  have hlink := hts _ (mlk_in hlk)
  dsimp only at hlink
  unfold own5 at hs
  split at hs
  · rename_i h5
    subst h5
    split at hs
    · rename_i a st2
      split at hs
      · rename_i hsum
        cases hs
        rcases hd with ⟨-, hd⟩ | ⟨hd, -⟩
        · rw [obj_nm] at hlink
          have h9 := lv_room (m := m) (pc := pc) (ls := lsA) (rest := []) (st := st'.map (cv b base)) (by rw [cv_sum]; exact hsum)
          exact W.objInit hx hb hown hlink (hts _ iobj_in) (hts _ cobj_in) rfl (hl.1.trans hml.symm) rfl hd hfr (Nat.le_trans (Nat.add_le_add_right h9 12) (by omega)) (kk H locs hW hS)
        · omega
      · cases hs
    · cases hs
  · split at hs
    · rename_i h5
      subst h5
      have hd2 : decode (MB k) pc = .ok (.invokestatic x, 3) := by
        rcases hd with ⟨hd, -⟩ | ⟨-, hd⟩
        · omega
        · exact hd
      split at hs
      · rename_i n dp b2 sp a st2
        split at hs
        · rename_i n0 f n1 g ha hcell hb2 hcell2
          split at hs
          · rename_i hcnd
            obtain ⟨h1, h2, h3, h4, h5, hsum⟩ := hcnd
            cases hs
            rw [cpy_nm] at hlink
            have he : (cw b base ca h.1 h.2.1)[a]? = some (ad b base a, .inl (ca 0, n0, .inl f)) := by rw [cw_get (of_decide_eq_true ha), hcell]; rfl
            have he2 : (cw b base ca h.1 h.2.1)[b2]? = some (ad b base b2, .inl (ca 0, n1, .inl g)) := by rw [cw_get (of_decide_eq_true hb2), hcell2]; rfl
            obtain ⟨s1, s2⟩ := tcl h1
            obtain ⟨d1, d2⟩ := tcl h2
            obtain ⟨n1', n2⟩ := tcl h3
            have hset : (cw b base ca h.1 h.2.1).set b2 (ad b base b2, .inl (ca 0, n1, .inl (va_cpy f g sp.toNatClampNeg dp.toNatClampNeg n.toNatClampNeg))) = cw b base ca (va_up h.1 b2 (.inl (0, n1, .inl (va_cpy f g sp.toNatClampNeg dp.toNatClampNeg n.toNatClampNeg)))) h.2.1 := cw_set (.inl (0, n1, .inl (va_cpy f g sp.toNatClampNeg dp.toNatClampNeg n.toNatClampNeg)))
            have hnf : nativeFrameWords "java/lang/System" "arraycopy" 5 = 7 := by decide
            exact va_copyi hx hb (hml.trans hl.1.symm) hown hlink (hts _ ncpy_in) (hts _ scpy_in) (hts _ isys_in) hK hP hD hS a b2 0 0 he he2 rfl rfl rfl s1 d1 n1' (by omega) (by omega) (fun i _ => rfl) hfr (by rw [cv_sum, hnf]; omega) hd2 (fun H1 locs1 hP1 hD1 hS1 => kk H1 locs1 ⟨hz9, by rw [hset] at hP1; exact hP1⟩ hS1)
          · cases hs
        · cases hs
      · cases hs
    · split at hs
      · rename_i h5
        subst h5
        have hd2 : decode (MB k) pc = .ok (.invokestatic x, 3) := by
          rcases hd with ⟨hd, -⟩ | ⟨-, hd⟩
          · omega
          · exact hd
        split at hs
        · rename_i y x1 st2
          split at hs
          · rename_i hsum
            cases hs
            rw [min_nm] at hlink
            exact va_mmin hx hb (hml.trans hl.1.symm) hown hlink (hts _ smin_in) (hts _ imath_in) (hts _ cmin_in) hfr (by rw [cv_sum]; omega) hcells hslots hd2 (kk H locs hW hS)
          · cases hs
        · cases hs
      · split at hs
        · rename_i h5
          subst h5
          have hd2 : decode (MB k) pc = .ok (.invokestatic x, 3) := by
            rcases hd with ⟨hd, -⟩ | ⟨-, hd⟩
            · omega
            · exact hd
          split at hs
          · rename_i y x1 st2
            split at hs
            · rename_i hsum
              cases hs
              rw [max_nm] at hlink
              exact va_mmax hx hb (hml.trans hl.1.symm) hown hlink (hts _ smax_in) (hts _ imath_in) (hts _ cmax_in) hfr (by rw [cv_sum]; omega) hcells hslots hd2 (kk H locs hW hS)
            · cases hs
          · cases hs
        · split at hs
          · rename_i h5
            subst h5
            have hd2 : decode (MB k) pc = .ok (.invokestatic x, 3) := by
              rcases hd with ⟨hd, -⟩ | ⟨-, hd⟩
              · omega
              · exact hd
            split at hs
            · rename_i x1 st2
              split at hs
              · rename_i hsum
                cases hs
                rw [abs_nm] at hlink
                exact va_mabs hx hb (hml.trans hl.1.symm) hown hlink (hts _ sabs_in) (hts _ imath_in) (hts _ cabs_in) hfr (by rw [cv_sum]; omega) hcells hslots hd2 (kk H locs hW hS)
              · cases hs
            · cases hs
          · cases hs
theorem rc_ok : (List.range nMeth).all (fun k => MX k || decide (mC.getD k 99 < 11)) = true := by decide +kernel
theorem rcv_lt {q ci : Nat} (hq : q < nMeth) (hc : ci = mC.getD q 99) (hX : MX q = false) : ci < 11 := by
  have h := all_at rc_ok hq
  rw [hX, Bool.false_or] at h
  rw [hc]
  exact of_decide_eq_true h
theorem iv_ok : (List.range nMeth).all (fun k => !isInit k || decide (MR k = none)) = true := by decide +kernel
theorem init_void {q : Nat} (hq : q < nMeth) (hI : isInit q = true) : MR q = none := by
  have h := all_at iv_ok hq
  rw [hI, Bool.not_true, Bool.false_or] at h
  exact of_decide_eq_true h
set_option maxHeartbeats 8000000 in
theorem call_sim {p : Program} {l : Launch} {e : Env} {R : Room} {s : State} {m : MethodId} {args : Array Value} {below : List Frame} {meth : Method} {c : Code} {Q : State → Prop} {k b base : Nat} {ca : Nat → ClassId} {D : va_G} {scr : Option (Nat × (Nat → Int32))} (C : Cx p s m args meth c k b base ca D scr) {f : Nat} (IH : SimAt l f)
    {pc x d q : Nat} {st as rest : List Value} {h h1 : HS} {r1 : Option Value} (hr1 : run f d none q 0 (lv_args 0 as) [] h = some (r1, h1)) (hq : q < nMeth) (hsum : (as.map fun v => v.category).sum ≤ ML q) (hst : st.map (cv b base) = (as.map (cv b base)).reverse ++ rest) (hrest : (rest.map fun v => v.category).sum ≤ 8)
    (hkind : (decode (MB k) pc = .ok (.invokevirtual x, 3) ∧ MX q = false ∧ isInit q = false ∧ as.length = MP q + 1 ∧ rcv q as h = true) ∨ (decode (MB k) pc = .ok (.invokespecial x, 3) ∧ MX q = false ∧ isInit q = true ∧ as.length = MP q + 1 ∧ rcv q as h = true) ∨ (decode (MB k) pc = .ok (.invokestatic x, 3) ∧ MX q = true ∧ as.length = MP q)) (hlk : (mC.getD k 99, x, q) ∈ mlk ∨ (mC.getD k 99, x, q) ∈ nml)
    (hfr : d + 1 ≤ R.frames) (hlo : 60 * (d + 1) ≤ R.locals) {H : Heap} {locs : List Loc} {lsA : Array Slot} {cells slots : Nat} {lv : LSt} (hW : Wd b base ca D h H) (hS : va_S (fun q : Nat => base ≤ q) s.heap H locs) (hl : lv_has lsA (ML k) lv) (hce : s.heap.size + cells = base + h.2.1) (hcells : cells + (h1.2.1 - h.2.1) ≤ R.cells) (hslots : slots + (h1.2.2 - h.2.2) ≤ R.slots)
    (kk : ∀ (H1 : Heap) (locs1 : List Loc), Wd b base ca D h1 H1 → va_S (fun q : Nat => base ≤ q) s.heap H1 locs1 → W p l e R s m args below meth c H1 locs1 (cells + (h1.2.1 - h.2.1)) (slots + (h1.2.2 - h.2.2)) Q (F0 m (pc + 3) lsA ((r1.map (cv b base)).toList ++ rest))) :
    W p l e R s m args below meth c H locs cells slots Q (F0 m pc lsA (st.map (cv b base))) := by
  obtain ⟨hx, hb, hml, hown, hts, hN, hK, hin, hbs, hscr⟩ := C
  obtain ⟨hz9, hP⟩ := id hW
  have hlow : base + h.2.1 ≤ H.size := cw_low hz9 hP (Nat.le_trans hbs hS.1)
  refine W.sz fun hsz => ?_
  have hszE : H.size = base + h.2.1 := by omega
  have M := met_of IH hr1 hq hsum b base ca D
  have hR : d + 1 ≤ R.frames ∧ 8 + (ML q + 11) + 60 * d ≤ R.locals := ⟨hfr, by have := m_ml hq; omega⟩
  have hU : ∀ U : State, U.heap = H → s.WarmedH U.vm → Pcx b base ca D as h (as.map (cv b base)).toArray U := fun U hU hW2 => ⟨rfl, by rw [hU]; exact hszE, by rw [hU]; exact hW, va_K.moved hW2.alike hK, hN.warm hW2⟩
  have hroom := lv_room (m := m) (pc := pc) (ls := lsA) (rest := st.map (cv b base)) hrest
  have S : CallFix p m c (MB k) (ML k) s args GT (cn (mC.getD k 99)) := ⟨hx, hb, hml, hown, hts⟩
  have recv : ∀ (a : Nat) (As : List Value), as = .ref a :: As → MX q = false → rcv q as h = true → ∃ cellB : Cell, H[ad b base a]? = some cellB ∧ cellB.vm.isStatics = false ∧ s.vm.findClass (MN q).cls = some cellB.cls := by
    intro a As ea hX hrc
    subst ea
    unfold rcv at hrc
    simp only [Bool.and_eq_true, decide_eq_true_eq] at hrc
    obtain ⟨ha, hrc⟩ := hrc
    split at hrc
    · rename_i ci fs hcell
      have hci := of_decide_eq_true hrc
      have he : (cw b base ca h.1 h.2.1)[a]? = some (ad b base a, .inr (ci, fs.map (cv b base))) := by rw [cw_get ha, hcell]; rfl
      have h11 : ci < 11 := rcv_lt hq hci hX
      have h12 := va_recv hK hP (cls_ws ci h11).1 he
      rw [hci] at h12
      exact h12
    · cases hrc
  rcases hkind with ⟨hd, hX, hI, hlen, hrc⟩ | ⟨hd, hX, hI, hlen, hrc⟩ | ⟨hd, hX, hlen⟩
  · obtain ⟨a, As, ea⟩ : ∃ a As, as = .ref a :: As := by
      unfold rcv at hrc
      split at hrc
      · exact ⟨_, _, rfl⟩
      · cases hrc
    have hcB := recv a As ea hX hrc
    subst ea
    have hn : (As.map (cv b base)).length = MP q := by rw [List.length_map]; simpa using hlen
    have hstack : st.map (cv b base) = (As.map (cv b base)).reverse ++ .ref (ad b base a) :: rest := by
      rw [hst, List.map_cons, List.reverse_cons, List.append_assoc]
      rfl
    rw [hstack] at hroom ⊢
    rcases hlk with hlk | hlk
    · have hlink := hts _ (mlk_in hlk)
      dsimp only at hlink
      rw [m_x hq] at hlink
      exact call_go (va_runV S M ⟨callB_of (MP q) hts (m_good hq) rfl rfl rfl (hts _ (m_init hq)) hlink ⟨(m_nm hq).1, (m_nm hq).2, m_par hq⟩ hR, hts _ (m_inst hq hX), hts _ (m_sel hq hX hI)⟩ ⟨Pcx_blind, hcB, hU⟩ rfl hn hl.1 rfl hroom hd ⟨hcells, hslots⟩) hS hbs kk
    · have hlink := hN.2.1 _ hlk
      unfold nmW at hlink
      dsimp only at hlink
      rw [m_x hq] at hlink
      exact call_go (va_runVN S M ⟨va_cnB (MP q) hts (m_good hq) rfl rfl rfl hlink (hts _ (m_init hq)) ⟨(m_nm hq).1, (m_nm hq).2, m_par hq⟩ hR, hts _ (m_inst hq hX), hts _ (m_sel hq hX hI)⟩ ⟨Pcx_blind, hcB, hU⟩ rfl hn hl.1 rfl hroom hd ⟨hcells, hslots⟩) hS hbs kk
  · obtain ⟨a, As, ea⟩ : ∃ a As, as = .ref a :: As := by
      unfold rcv at hrc
      split at hrc
      · exact ⟨_, _, rfl⟩
      · cases hrc
    subst ea
    have hn : (As.map (cv b base)).length = MP q := by rw [List.length_map]; simpa using hlen
    have hstack : st.map (cv b base) = (As.map (cv b base)).reverse ++ .ref (ad b base a) :: rest := by
      rw [hst, List.map_cons, List.reverse_cons, List.append_assoc]
      rfl
    have hnm : (MN q).name = "<init>" := eq_of_beq hI
    have hrt : MR q = none := init_void hq hI
    rw [hstack] at hroom ⊢
    have M2 : Met l (MN q) (Cond.code (MN q) (MB q) (ML q) none :: GT) ({ frames := d, cells := h1.2.1 - h.2.1, slots := h1.2.2 - h.2.2, locals := 60 * d } : Room) (Pcx b base ca D (.ref a :: As) h) (Qcx b base ca D r1 h1) (h1.2.1 - h.2.1) (h1.2.2 - h.2.2) (fun q : Nat => base ≤ q) := by
      rw [← hrt]; exact M
    have hG : GoodIn GT (Cond.code (MN q) (MB q) (ML q) none :: GT) := by rw [← hrt]; exact m_good hq
    rcases hlk with hlk | hlk
    · have hlink := hts _ (mlk_in hlk)
      dsimp only at hlink
      rw [m_x hq] at hlink
      exact call_go (va_runI S M2 ⟨callB_of (MP q) hts hG rfl rfl rfl (hts _ (m_init hq)) hlink ⟨(m_nm hq).1, (m_nm hq).2, m_par hq⟩ hR, hnm, hts _ (m_inst hq hX)⟩ ⟨Pcx_blind, hU⟩ rfl hn hl.1 rfl hroom hd ⟨hcells, hslots⟩) hS hbs kk
    · have hlink := hN.2.1 _ hlk
      unfold nmW at hlink
      dsimp only at hlink
      rw [m_x hq] at hlink
      exact call_go (va_runIN S M2 ⟨va_cnB (MP q) hts hG rfl rfl rfl hlink (hts _ (m_init hq)) ⟨(m_nm hq).1, (m_nm hq).2, m_par hq⟩ hR, hnm, hts _ (m_inst hq hX)⟩ ⟨Pcx_blind, hU⟩ rfl hn hl.1 rfl hroom hd ⟨hcells, hslots⟩) hS hbs kk
  · have hn : (as.map (cv b base)).length = MP q := by rw [List.length_map]; exact hlen
    rw [hst] at hroom ⊢
    rcases hlk with hlk | hlk
    · have hlink := hts _ (mlk_in hlk)
      dsimp only at hlink
      rw [m_x hq] at hlink
      exact call_go (va_runS S M ⟨callB_of (MP q) hts (m_good hq) rfl rfl rfl (hts _ (m_init hq)) hlink ⟨(m_nm hq).1, (m_nm hq).2, m_par hq⟩ hR, hts _ (m_stat hq hX)⟩ ⟨Pcx_blind, hU⟩ rfl hn hl.1 rfl hroom hd ⟨hcells, hslots⟩) hS hbs kk
    · have hlink := hN.2.1 _ hlk
      unfold nmW at hlink
      dsimp only at hlink
      rw [m_x hq] at hlink
      exact call_go (va_runSN S M ⟨va_cnB (MP q) hts (m_good hq) rfl rfl rfl hlink (hts _ (m_init hq)) ⟨(m_nm hq).1, (m_nm hq).2, m_par hq⟩ hR, hts _ (m_stat hq hX), trivial⟩ ⟨Pcx_blind, hU⟩ rfl hn hl.1 rfl hroom hd ⟨hcells, hslots⟩) hS hbs kk
end
section
set_option maxHeartbeats 8000000 in
/-- THE SMALL MACHINE TELLS WHAT THE MACHINE DOES -/
theorem run_sim (l : Launch) : ∀ f, SimAt l f := by
  intro f
  induction f with
  | zero =>
    intro d scr k pc ls st h r h' hr
    cases hr
  | succ f IH =>
    intro d scr k pc ls st h r h' hr hk p e R s m args below meth c Q b base ca D C hdf hdl H locs lsA cells slots hW hS hl hce hcells hslots kret
    have C0 := C
    obtain ⟨hx, hb, hml, hown, hts, hN, hK, hin, hbs, hscr⟩ := C
    obtain ⟨hz9, hP⟩ := id hW
    have go : ∀ (t : Nat) (st2 : List Value), run f d scr k t ls st2 h = some (r, h') → W p l e R s m args below meth c H locs cells slots Q (F0 m t lsA (st2.map (cv b base))) := fun t st2 ht => IH d scr k t ls st2 h r h' ht hk p e R s m args below meth c Q b base ca D C0 hdf hdl H locs lsA cells slots hW hS hl hce hcells hslots kret
    have callk : ∀ (np q na x : Nat) (rc : Bool), np = pc + 3 → (match (generalizing := false) d with
        | 0 => none
        | d + 1 => if na ≤ st.length ∧ q < nMeth ∧ ((st.drop na).map fun v => v.category).sum ≤ 8 ∧ (((st.take na).reverse).map fun v => v.category).sum ≤ ML q ∧ (rc = true → rcv q (st.take na).reverse h = true) then
            match run f d none q 0 (lv_args 0 (st.take na).reverse) [] h with
            | some (r, h') => run f (d + 1) scr k np ls (r.toList ++ st.drop na) h'
            | none => none
          else none) = some (r, h') → ((mC.getD k 99, x, q) ∈ mlk ∨ (mC.getD k 99, x, q) ∈ nml) →
        ((decode (MB k) pc = .ok (.invokevirtual x, 3) ∧ MX q = false ∧ isInit q = false ∧ na = MP q + 1 ∧ rc = true) ∨ (decode (MB k) pc = .ok (.invokespecial x, 3) ∧ MX q = false ∧ isInit q = true ∧ na = MP q + 1 ∧ rc = true) ∨ (decode (MB k) pc = .ok (.invokestatic x, 3) ∧ MX q = true ∧ na = MP q)) →
        W p l e R s m args below meth c H locs cells slots Q (F0 m pc lsA (st.map (cv b base))) := by
      intro np q na x rc enp hq hlk hkind
      subst enp
      cases d with
      | zero => cases hq
      | succ d =>
        dsimp only at hq
        split at hq
        · rename_i hcnd
          obtain ⟨c1, c2, c3, c4, c5⟩ := hcnd
          split at hq
          · rename_i r1 h1 e1
            have a1 := run_mono _ _ _ _ _ _ _ _ _ _ e1
            have a2 := run_mono _ _ _ _ _ _ _ _ _ _ hq
            have hlen : ((st.take na).reverse).length = na := by rw [List.length_reverse, List.length_take]; omega
            refine call_sim C0 IH e1 c2 c4 (stk_split rfl) (by rw [cv_sum]; exact c3) (x := x) ?_ hlk hdf hdl hW hS hl hce (by omega) (by omega) (fun H1 locs1 hW1 hS1 => ?_)
            · rcases hkind with ⟨g1, g2, g3, g4, g5⟩ | ⟨g1, g2, g3, g4, g5⟩ | ⟨g1, g2, g3⟩
              · exact Or.inl ⟨g1, g2, g3, hlen.trans g4, c5 g5⟩
              · exact Or.inr (Or.inl ⟨g1, g2, g3, hlen.trans g4, c5 g5⟩)
              · exact Or.inr (Or.inr ⟨g1, g2, hlen.trans g3⟩)
            · have e2 : (r1.map (cv b base)).toList ++ (st.drop na).map (cv b base) = (r1.toList ++ st.drop na).map (cv b base) := by
                rw [List.map_append]
                cases r1 <;> rfl
              rw [e2]
              refine IH (d + 1) scr k (pc + 3) ls (r1.toList ++ st.drop na) h1 r h' hq hk p e R s m args below meth c Q b base ca D C0 hdf hdl H1 locs1 lsA _ _ hW1 hS1 hl (by omega) (by omega) (by omega) ?_
              intro H' locs' lsA' pc' cells' slots' u1 u2
              exact kret H' locs' lsA' pc' cells' slots' (by omega) (by omega)
          · cases hq
        · cases hq
    have ownk : ∀ (np q x : Nat), np = pc + 3 → (if d = 0 then none else match own5 q st h with
        | some (st', h') => run f d scr k np ls st' h'
        | none => none) = some (r, h') → (mC.getD k 99, x, q) ∈ mlk → ((q = 500 ∧ decode (MB k) pc = .ok (.invokespecial x, 3)) ∨ (501 ≤ q ∧ decode (MB k) pc = .ok (.invokestatic x, 3))) →
        W p l e R s m args below meth c H locs cells slots Q (F0 m pc lsA (st.map (cv b base))) := by
      intro np q x enp hq hlk hd
      subst enp
      split at hq
      · cases hq
      · rename_i hd0
        split at hq
        · rename_i st1 h1 e1
          have a1 := own5_mono e1
          refine own5_sim C0 e1 hlk hd (by omega) (by omega) hW hS hl (by omega) (by omega) (fun H1 locs1 hW1 hS1 => ?_)
          refine IH d scr k (pc + 3) ls st1 h1 r h' hq hk p e R s m args below meth c Q b base ca D C0 hdf hdl H1 locs1 lsA _ _ hW1 hS1 hl (by rw [a1]; exact hce) (by rw [a1]; exact hcells) (by rw [a1]; exact hslots) ?_
          rw [a1]
          exact kret
        · cases hq
    unfold run at hr
    split at hr
    · cases hr
    rename_i i np hi
    have hck : ckE k (pc, i, np) = true := List.all_eq_true.mp (pk_all hk) _ (lkp_mem hi)
    obtain ⟨o, len, hd, hnp, hlen, hc⟩ := ckE_inv hck
    dsimp only at hr
    split at hr
    · obtain rfl := chk_iret hc
      have hlen2 : len = 1 := of_decide_eq_true hlen
      subst hlen2
      split at hr
      · split at hr
        · rename_i v hv
          cases hr
          exact kret H locs lsA pc cells slots (by omega) (by omega) hW hS ⟨hd, hv⟩
        · cases hr
      · cases hr
    · obtain rfl := chk_lret hc
      have hlen2 : len = 1 := of_decide_eq_true hlen
      subst hlen2
      split at hr
      · split at hr
        · rename_i v hv
          cases hr
          exact kret H locs lsA pc cells slots (by omega) (by omega) hW hS ⟨hd, hv⟩
        · cases hr
      · cases hr
    · obtain rfl := chk_vret hc
      have hlen2 : len = 1 := of_decide_eq_true hlen
      subst hlen2
      split at hr
      · split at hr
        · rename_i hv
          cases hr
          exact kret H locs lsA pc cells slots (by omega) (by omega) hW hS ⟨hd, hv⟩
        · cases hr
      · cases hr
    · obtain ⟨a, rfl, h1, h2⟩ := chk_goto hc
      have hlen2 : len = 3 := of_decide_eq_true hlen
      subst hlen2
      exact lv_goto hx hb hd (by omega) (go _ _ hr)
    · rename_i c0 t
      obtain ⟨a, rfl, h1, h2⟩ := chk_ifc hc
      have hlen2 : len = 3 := of_decide_eq_true hlen
      subst hlen2
      subst hnp
      split at hr
      · rename_i x st2
        cases c0 with
        | eq =>
          refine lv_if_eq (tgt := t.toNat) hx hb hd (by omega) (fun hq => ?_) (fun hq => ?_)
          · rw [if_pos (show cnd .eq x 0 = true from decide_eq_true hq)] at hr
            exact go _ _ hr
          · rw [if_neg (show ¬ cnd .eq x 0 = true from fun q => hq (of_decide_eq_true q))] at hr
            exact go _ _ hr
        | ne =>
          refine lv_if_ne (tgt := t.toNat) hx hb hd (by omega) (fun hq => ?_) (fun hq => ?_)
          · rw [if_pos (show cnd .ne x 0 = true from decide_eq_true hq)] at hr
            exact go _ _ hr
          · rw [if_neg (show ¬ cnd .ne x 0 = true from fun q => of_decide_eq_true q hq)] at hr
            exact go _ _ hr
        | lt =>
          refine lv_if_lt (tgt := t.toNat) hx hb hd (by omega) (fun hq => ?_) (fun hq => ?_)
          · rw [if_pos (show cnd .lt x 0 = true from decide_eq_true hq)] at hr
            exact go _ _ hr
          · rw [if_neg (show ¬ cnd .lt x 0 = true from fun q => hq (of_decide_eq_true q))] at hr
            exact go _ _ hr
        | ge =>
          refine lv_if_ge (tgt := t.toNat) hx hb hd (by omega) (fun hq => ?_) (fun hq => ?_)
          · rw [if_pos (show cnd .ge x 0 = true from decide_eq_true hq)] at hr
            exact go _ _ hr
          · rw [if_neg (show ¬ cnd .ge x 0 = true from fun q => hq (of_decide_eq_true q))] at hr
            exact go _ _ hr
        | gt =>
          refine lv_if_gt (tgt := t.toNat) hx hb hd (by omega) (fun hq => ?_) (fun hq => ?_)
          · rw [if_pos (show cnd .gt x 0 = true from decide_eq_true hq)] at hr
            exact go _ _ hr
          · rw [if_neg (show ¬ cnd .gt x 0 = true from fun q => hq (of_decide_eq_true q))] at hr
            exact go _ _ hr
        | le =>
          refine lv_if_le (tgt := t.toNat) hx hb hd (by omega) (fun hq => ?_) (fun hq => ?_)
          · rw [if_pos (show cnd .le x 0 = true from decide_eq_true hq)] at hr
            exact go _ _ hr
          · rw [if_neg (show ¬ cnd .le x 0 = true from fun q => hq (of_decide_eq_true q))] at hr
            exact go _ _ hr
      · cases hr
    · rename_i c0 t
      obtain ⟨a, rfl, h1, h2⟩ := chk_icm hc
      have hlen2 : len = 3 := of_decide_eq_true hlen
      subst hlen2
      subst hnp
      split at hr
      · rename_i y x st2
        cases c0 with
        | eq =>
          refine lv_icmp_eq (tgt := t.toNat) hx hb hd (by omega) (fun hq => ?_) (fun hq => ?_)
          · rw [if_pos (show cnd .eq x y = true from decide_eq_true hq)] at hr
            exact go _ _ hr
          · rw [if_neg (show ¬ cnd .eq x y = true from fun q => hq (of_decide_eq_true q))] at hr
            exact go _ _ hr
        | ne =>
          refine lv_icmp_ne (tgt := t.toNat) hx hb hd (by omega) (fun hq => ?_) (fun hq => ?_)
          · rw [if_pos (show cnd .ne x y = true from decide_eq_true hq)] at hr
            exact go _ _ hr
          · rw [if_neg (show ¬ cnd .ne x y = true from fun q => of_decide_eq_true q hq)] at hr
            exact go _ _ hr
        | lt =>
          refine lv_icmp_lt (tgt := t.toNat) hx hb hd (by omega) (fun hq => ?_) (fun hq => ?_)
          · rw [if_pos (show cnd .lt x y = true from decide_eq_true hq)] at hr
            exact go _ _ hr
          · rw [if_neg (show ¬ cnd .lt x y = true from fun q => hq (of_decide_eq_true q))] at hr
            exact go _ _ hr
        | ge =>
          refine lv_icmp_ge (tgt := t.toNat) hx hb hd (by omega) (fun hq => ?_) (fun hq => ?_)
          · rw [if_pos (show cnd .ge x y = true from decide_eq_true hq)] at hr
            exact go _ _ hr
          · rw [if_neg (show ¬ cnd .ge x y = true from fun q => hq (of_decide_eq_true q))] at hr
            exact go _ _ hr
        | gt =>
          refine lv_icmp_gt (tgt := t.toNat) hx hb hd (by omega) (fun hq => ?_) (fun hq => ?_)
          · rw [if_pos (show cnd .gt x y = true from decide_eq_true hq)] at hr
            exact go _ _ hr
          · rw [if_neg (show ¬ cnd .gt x y = true from fun q => hq (of_decide_eq_true q))] at hr
            exact go _ _ hr
        | le =>
          refine lv_icmp_le (tgt := t.toNat) hx hb hd (by omega) (fun hq => ?_) (fun hq => ?_)
          · rw [if_pos (show cnd .le x y = true from decide_eq_true hq)] at hr
            exact go _ _ hr
          · rw [if_neg (show ¬ cnd .le x y = true from fun q => hq (of_decide_eq_true q))] at hr
            exact go _ _ hr
      · cases hr
    · rename_i df lo hi2 os
      obtain ⟨a, os2, rfl, h1, h2, h3, h4⟩ := chk_tsw hc
      split at hr
      · rename_i x st2
        split at hr
        · rename_i hout
          exact lv_tableOut hx hb hd hout (by omega) (go _ _ hr)
        · rename_i hinn
          split at hr
          · rename_i t ht
            rw [← h3, List.getElem?_map] at ht
            cases ho : os2.toList[(x.toInt - lo).toNat]? with
            | none => rw [ho] at ht; cases ht
            | some off =>
              rw [ho] at ht
              have e3 : (pc : Int) + off = t := Option.some.inj ht
              have e4 : 0 ≤ t := by
                have h5 := List.all_eq_true.mp h4 t (by rw [← h3]; exact e3 ▸ List.mem_map_of_mem (f := fun o => (pc : Int) + o) (List.mem_of_getElem? ho))
                exact of_decide_eq_true h5
              exact lv_tableIn hx hb hd (fun q => hinn (Or.inl q)) (fun q => hinn (Or.inr q)) (by rw [← Array.getElem?_toList]; exact ho) (by omega) (go _ _ hr)
          · cases hr
      · cases hr
    · rename_i df qs
      obtain ⟨a, ps, rfl, h1, h2, h3, h4, h5⟩ := chk_lsw hc
      split at hr
      · rename_i x st2
        have key : ∀ (pl ql : List (Int × Int)), pl.map (fun q => (q.1, (pc : Int) + q.2)) = ql → ql.all (fun q => decide (0 ≤ q.2)) = true → (pc : Int) + Op.lookupswitch.offset pl a x.toInt = swl ql df x.toInt ∧ 0 ≤ swl ql df x.toInt := by
          intro pl
          induction pl with
          | nil =>
            intro ql e1 _
            subst e1
            exact ⟨h1, h2⟩
          | cons w pl ihp =>
            intro ql e1 e2
            obtain ⟨wa, wo⟩ := w
            subst e1
            rw [List.map_cons, List.all_cons, Bool.and_eq_true] at e2
            rw [Op.lookupswitch.offset_cons]
            rw [List.map_cons]
            unfold swl
            dsimp only
            by_cases hw : wa = x.toInt
            · rw [if_pos hw, if_pos hw]
              exact ⟨rfl, of_decide_eq_true e2.1⟩
            · rw [if_neg hw, if_neg hw]
              exact ihp _ rfl e2.2
        obtain ⟨k1, k2⟩ := key ps.toList qs.toList h3 h4
        exact lv_lookup hx hb hd h5 rfl (by omega) (go _ _ hr)
      · cases hr
    · obtain ⟨x, rfl, h1, h2, h3, h4⟩ := chk_inv hc
      have hlen2 : len = 3 := of_decide_eq_true hlen
      subst hlen2
      exact callk np _ _ x true hnp.symm hr (ckM_in h1) (Or.inl ⟨hd, h2, h3, rfl, rfl⟩)
    · obtain ⟨x, rfl, h1, h2⟩ := chk_ins hc
      have hlen2 : len = 3 := of_decide_eq_true hlen
      subst hlen2
      have h500 : nMeth < 500 := by decide
      split at hr
      · rename_i hlt
        rcases h2 with ⟨g1, g2⟩ | ⟨g1, g2, g3⟩
        · omega
        · exact callk np _ _ x true hnp.symm hr (ckM_in h1) (Or.inr (Or.inl ⟨hd, g1, g2, rfl, rfl⟩))
      · rename_i hlt
        rcases h2 with ⟨g1, g2⟩ | ⟨g1, g2, g3⟩
        · exact ownk np _ x hnp.symm hr (ckM_nn h1 g1) (Or.inl ⟨g2, hd⟩)
        · omega
    · obtain ⟨x, rfl, h1, h2⟩ := chk_inst hc
      have hlen2 : len = 3 := of_decide_eq_true hlen
      subst hlen2
      have h500 : nMeth < 500 := by decide
      split at hr
      · rename_i hlt
        rcases h2 with ⟨g1, g2⟩ | ⟨g1, g2⟩
        · omega
        · exact callk np _ _ x false hnp.symm hr (ckM_in h1) (Or.inr (Or.inr ⟨hd, g1, rfl⟩))
      · rename_i hlt
        rcases h2 with ⟨g1, g2⟩ | ⟨g1, g2⟩
        · exact ownk np _ x hnp.symm hr (ckM_nn h1 g1) (Or.inr ⟨g2, hd⟩)
        · omega
    · split at hr
      · rename_i ls1 st1 h1 e1
        have a1 := stp_mono e1
        have a2 := run_mono _ _ _ _ _ _ _ _ _ _ hr
        refine stp_sim C0 hck e1 hW hS hl hce (by omega) (by omega) (fun H1 locs1 lsA1 cells1 slots1 u1 u2 hW1 hS1 hl1 => ?_)
        refine IH d scr k np ls1 st1 h1 r h' hr hk p e R s m args below meth c Q b base ca D C0 hdf hdl H1 locs1 lsA1 cells1 slots1 hW1 hS1 hl1 (by omega) (by omega) (by omega) ?_
        intro H' locs' lsA' pc' cells' slots' v1 v2
        exact kret H' locs' lsA' pc' cells' slots' (by omega) (by omega)
      · cases hr
end
section
-- ===== end of PART A; then your names; then what follows =====
/-! THE CLAIM OUT OF ONE WALK OF THE LAW'S BODY. Your part is whole_start (and what it stands on); all else here is the same for every law, but numbers. -/
def R_law : String := "BoxSpiderLaw"
def lw_P (b : Addr) (xs : List Int32) (args : Array Value) (s : State) : Prop := args = #[.ref b] ∧ s.IntsAt b xs ∧ xs.length ≤ 384 ∧ (Jvm.Cond.and given_1 narrow_1).before args s = true
def lw_Q (_ : Array Value) (s : State) (o : Outcome) (t : State) : Prop := o = .returned (some (.int 1)) ∧ Framed s o t [] 600000 7302250
def lw_Z (below : List Frame) (a : Array Value) (s : State) : State → Prop := fun t => ∃ o, t.status = .running ∧ Ended t below o ∧ lw_Q a s o t
/-- the law's own end, with 1 on the stack, nothing written that was there before, its room as the claim has it -/
theorem lw_ret {p : Program} {l : Launch} {e : Env} {s : State} {m : MethodId} {below : List Frame} {meth : Method} {c : Code} {b : Nat} (hx : p.tables.exec = Jvm.exec) (hb : c.code = code) (hr : meth.sig.returnType = ret) (hlocks : meth.locks = false) {pc : Nat} {H : Heap} {ls : Array Slot} (hdg : decode code pc = .ok (.ireturn, 1)) : W p l e room_1 s m #[Value.ref b] below meth c H [] 600000 7302250 (lw_Z below #[Value.ref b] s) (F0 m pc ls [.int 1]) := by
  intro T hT X
  obtain ⟨fs, hret, hrun, hended, hW, hframe⟩ := X.leave (v := some (.int 1)) (hlocks := hlocks) (fun h => by rw [hr] at h; cases h)
  have hmeth' : T.vm.method? m = some meth := X.method'
  refine ⟨T.setFrames fs, ?_, .returned (some (.int 1)), hrun, hended, rfl, ⟨_, rfl⟩, hW, hframe⟩
  jvm_step X.here [X.here.top, hx, hb, hdg, hmeth', hr, ret, narrow_b1]
  (try refine ⟨rfl, ?_⟩); (try refine ⟨rfl, ?_⟩)
  first | (intro acts; rw [hret _ acts rfl rfl rfl]) | rw [hret _ _ rfl rfl rfl]
  exact Steps.refl _
/-- what holds at the law's entry: the machine, the code, the tables' words (any of lw_tbl by 'hts w (by decide +kernel)'), the script of L ints xs at the cell b, what the Statement gives of the start (any of its parts by flat_of_before) -/
def lw_At (p : Program) (s : State) (m : MethodId) (meth : Method) (c : Code) (b L : Nat) (xs : Nat → Int32) : Prop :=
  p.tables.exec = Jvm.exec ∧ c.code = code ∧ meth.sig.returnType = ret ∧ c.maxLocals = 4 ∧ s.vm.findClass R_law = some m.cls ∧ (∀ w ∈ lw_tbl, w.before #[Value.ref b] s = true) ∧ va_X b L xs s s.heap ∧ b < s.heap.size ∧ meth.locks = false ∧ (Jvm.Cond.and given_1 narrow_1).before #[Value.ref b] s = true
end
section
/-- an empty heap -/
def h00 : HS := (fun _ => .inr (0, []), 0, 0)
/-- THE PURE STATEMENT: what is to be shown of the small machine alone -/
def PureLaw : Prop := ∀ (L : Nat) (xs : Nat → Int32), L ≤ 384 → ∃ (f : Nat) (h' : HS), run f 30 (some (L, xs)) 183 0 [(0, .ref 999999)] [] h00 = some (some (.int 1), h') ∧ h'.2.1 ≤ 600000 ∧ h'.2.2 ≤ 7302250
theorem ao_st : Cond.arrayOver (.object "BoxSpider$Stand") ∈ lw_tbl := by decide +kernel
theorem ao_sh : Cond.arrayOver (.object "BoxSpider$Sheet") ∈ lw_tbl := by decide +kernel
set_option maxHeartbeats 4000000 in
theorem bridge (PL : PureLaw) {p : Program} {e : Env} {s : State} {m : MethodId} {below : List Frame} {meth : Method} {c : Code} (l : Launch) {b L : Nat} {xs : Nat → Int32} (hL : L ≤ 384) (C0 : lw_At p s m meth c b L xs) : W p l e room_1 s m #[Value.ref b] below meth c s.heap [] 0 0 (lw_Z below #[Value.ref b] s) (entryFrame m ([Value.ref b] : List Value).toArray 4) := by
  obtain ⟨hx, hb, hr, hml, hown, hts0, hX, hbl, hlocks, hgv⟩ := C0
  have hts : ∀ w ∈ GT, w.before #[Value.ref b] s = true := fun w hw => hts0 w (GT_in hw)
  have hkn : ∀ ci : Nat, ∃ q : ClassId × (Nat → Nat), ci < 11 → u_Kn s (cn ci) (fT ci) (fN ci) q.1 q.2 := by
    intro ci
    by_cases hc : ci < 11
    · obtain ⟨-, -, h2, h3⟩ := cls_ws ci hc
      obtain ⟨cC, iS, h4⟩ := u_known hts h3 (hts _ h2)
      exact ⟨(cC, iS), fun _ => h4⟩
    · exact ⟨(0, fun _ => 0), fun h => absurd h hc⟩
  obtain ⟨G, hG⟩ := Classical.axiomOfChoice hkn
  obtain ⟨cI, kI, compI, i1, i2, i3⟩ := Cond.arrayClass_spec (hts _ aint_in)
  have a1 : va_AO "BoxSpider$Stand" s := va_AO.of (hts0 _ ao_st)
  have a2 : va_AO "BoxSpider$Sheet" s := va_AO.of (hts0 _ ao_sh)
  obtain ⟨comp1, c1, k1, s1, -, s3, s4, s5⟩ := Cond.arrayOver_spec (hts0 _ ao_st)
  obtain ⟨comp2, c2, k2, t1, -, t3, t4, t5⟩ := Cond.arrayOver_spec (hts0 _ ao_sh)
  have hK : va_K (fun ci => (G ci).1, fun ci => (G ci).2) vwCl (tysOf (fun t => if t = 0 then cI else if t = 1 then c1 else c2)) s := by
    refine ⟨fun ci q hq => ?_, fun k q hq => ?_⟩
    · have hlt : ci < 11 := (List.getElem?_eq_some_iff.mp hq).1
      rw [(cls_ws ci hlt).1] at hq
      cases hq
      exact hG ci hlt
    · match k, hq with
      | 0, hq =>
        cases hq
        exact ⟨fun n z => ⟨(fun k h => by cases h), kI, i2, compI, i3⟩, i1⟩
      | 1, hq =>
        cases hq
        exact ⟨fun n z => ⟨(fun k h => by cases h), k1, s3, comp1, s4⟩, k1, comp1, s3, s4, s1, s5⟩
      | 2, hq =>
        cases hq
        exact ⟨fun n z => ⟨(fun k h => by cases h), k2, t3, comp2, t4⟩, k2, comp2, t3, t4, t1, t5⟩
      | k + 3, hq => simp [tysOf] at hq
  have hN : NWd s := ⟨fun q hq => va_Nw.of rfl (hts0 _ (nfl_in hq)), fun q hq => va_Nw.of rfl (hts0 _ (nml_in hq)), a1, a2⟩
  have C : Cx p s m #[Value.ref b] meth c 183 b s.heap.size (fun t => if t = 0 then cI else if t = 1 then c1 else c2) (fun ci => (G ci).1, fun ci => (G ci).2) (some (L, xs)) := ⟨hx, hb, hml, hown, hts, hN, hK, fun h => absurd h (by decide), Nat.le_refl _, fun n f h => by cases h; exact ⟨hX, hbl⟩⟩
  obtain ⟨f, h', hrun, hz1, hz2⟩ := PL L xs hL
  have hl := lv_entry ([.ref b]) (n := 4) (Nat.le_of_ble_eq_true rfl)
  rw [lg_entry_eq]
  refine run_sim l f 30 (some (L, xs)) 183 0 [(0, .ref 999999)] [] h00 _ h' hrun (by decide) p e room_1 s m _ below meth c _ b s.heap.size _ _ C (by decide) (by decide) s.heap [] _ 0 0 ⟨by decide, fun k q hq => by cases hq⟩ va_S.rf hl rfl (by show 0 + (h'.2.1 - 0) ≤ 600000; omega) (by show 0 + (h'.2.2 - 0) ≤ 7302250; omega) ?_
  intro H' locs' lsA' pc' cells' slots' e1 e2 hW' hS' hret
  refine va_forget (fun q hq => hS'.2.2 q hq) ?_
  refine W.widen (k := 600000) (n := 7302250) (by rw [e1]; show 0 + (h'.2.1 - 0) ≤ 600000; omega) (by rw [e2]; show 0 + (h'.2.2 - 0) ≤ 7302250; omega) ?_
  exact lw_ret hx hb hr hlocks hret.1
end
section
def clsL : List Nat := [9, 2, 20, 20, 20, 20, 20, 5, 20, 1, 20, 3, 5, 20, 5, 20, 0, 21, 20, 6, 6, 6, 6, 6, 7, 20, 20, 20, 20, 8, 20, 20, 22, 6, 0, 5, 20, 20, 4, 20, 4, 20, 4, 20, 4, 20, 10, 20, 20, 20, 20, 20, 20, 20, 20, 20, 20, 20, 20, 20, 20, 20, 20]
def lenL : List Nat := [11, 7, 3, 8, 8, 8, 6, 1, 6, 2, 40, 11, 1, 6, 1, 6, 4, 5, 5, 8, 8, 8, 8, 8, 6, 64, 64, 64, 64, 4, 8, 8, 4, 8, 4, 1, 6, 3, 3, 60, 3, 60, 3, 60, 3, 60, 20, 4, 4, 240, 60, 3, 24, 6, 40, 560, 160, 5, 5, 6, 64, 8, 8]
def rtL : List (List Nat) := [[1, 9, 11, 24, 29, 32, 33, 34, 35, 37, 0], [2, 3, 4, 5, 6, 7, 0], [], [], [], [], [], [8], [], [10, 0], [], [1, 12, 14, 16, 17, 18, 0, 0, 0, 0, 0], [13], [], [15], [], [0, 0, 0, 0], [19, 20, 21, 22, 23], [], [0, 0, 0, 0, 0, 0, 0, 0], [0, 0, 0, 0, 0, 0, 0, 0], [0, 0, 0, 0, 0, 0, 0, 0], [0, 0, 0, 0, 0, 0, 0, 0], [0, 0, 0, 0, 0, 0, 0, 0], [1, 11, 25, 26, 27, 28], [], [], [], [], [30, 31, 0, 0], [], [], [38, 40, 42, 44], [0, 0, 0, 0, 0, 0, 0, 0], [0, 0, 0, 0], [36], [], [], [39, 0, 0], [], [41, 0, 0], [], [43, 0, 0], [], [45, 0, 0], [], [47, 48, 49, 50, 0, 51, 52, 53, 54, 0, 55, 56, 0, 0, 57, 58, 59, 60, 61, 62], [], [], [], [], [], [], [], [], [], [], [], [], [], [], [], []]
def nC : Nat := 63
def nS : Nat := 1956
/-! THE HEAP OF INTS: behind the constructors refs never change; sg c k is the int in slot k of cell c -/
abbrev Hp : Type := Nat → Nat → Int32
def clsOf (i : Nat) : Nat := clsL.getD i 99
def lenOf (i : Nat) : Nat := lenL.getD i 0
def rt (i k : Nat) : Nat := (rtL.getD i []).getD k 0
def flds (sg : Hp) (i ci : Nat) : List Value := (List.range (fN ci)).map (fun k => if fI ci k then .int (sg i k) else .ref (rt i k))
def HP (sg : Hp) (i : Nat) : va_E :=
  if clsOf i = 20 then .inl (0, lenOf i, .inl (sg i))
  else if clsOf i = 21 then .inl (1, lenOf i, .inr (.inr (.inr (.inr (fun j => if j < lenOf i then some (rt i j) else none)))))
  else if clsOf i = 22 then .inl (2, lenOf i, .inr (.inr (.inr (.inr (fun j => if j < lenOf i then some (rt i j) else none)))))
  else if clsOf i < 11 then .inr (clsOf i, flds sg i (clsOf i)) else .inr (0, [])
def HSx (sg : Hp) : HS := (HP sg, nC, nS)
theorem cls_lt {i : Nat} (h : clsOf i ≠ 99) : i < nC := by
  by_cases hi : i < nC
  · exact hi
  · exfalso
    apply h
    unfold clsOf
    have e : clsL.length = nC := by decide
    rw [List.getD_eq_getElem?_getD, List.getElem?_eq_none_iff.mpr (by omega)]
    rfl
theorem HP_arr {sg : Hp} {a : Nat} (h : clsOf a = 20) : HP sg a = .inl (0, lenOf a, .inl (sg a)) := by unfold HP; rw [if_pos h]
theorem HP_obj {sg : Hp} {a ci : Nat} (h : clsOf a = ci) (hc : ci < 11) : HP sg a = .inr (ci, flds sg a ci) := by
  unfold HP
  rw [if_neg (by omega), if_neg (by omega), if_neg (by omega), if_pos (by omega), h]
theorem HP_upA {sg : Hp} {a : Nat} (f : Nat → Int32) (h : clsOf a = 20) : va_up (HP sg) a (.inl (0, lenOf a, .inl f)) = HP (va_up sg a f) := by
  funext i
  unfold va_up
  by_cases hi : i = a
  · subst hi
    rw [if_pos rfl, HP_arr h, if_pos rfl]
  · rw [if_neg hi]
    unfold HP flds
    simp only [if_neg hi]
theorem flds_get {sg : Hp} {a ci j : Nat} (hj : j < fN ci) : (flds sg a ci)[j]? = some (if fI ci j then .int (sg a j) else .ref (rt a j)) := by
  unfold flds
  rw [List.getElem?_map, List.getElem?_range hj]
  rfl
theorem flds_len {sg : Hp} {a ci : Nat} : (flds sg a ci).length = fN ci := by simp [flds]
theorem flds_set {sg : Hp} {a ci k : Nat} {x : Int32} (hI : fI ci k = true) : (flds sg a ci).set k (.int x) = flds (va_up sg a (upd (sg a) k x)) a ci := by
  apply List.ext_getElem?
  intro j
  rw [List.getElem?_set, flds_len]
  by_cases hj : j < fN ci
  · rw [flds_get hj, flds_get hj]
    by_cases hk : k = j
    · subst hk
      rw [if_pos rfl, if_pos hj, if_pos hI]
      simp [va_up, upd]
    · rw [if_neg hk]
      simp [va_up, upd, Ne.symm hk]
  · have e1 : ∀ s2 : Hp, (flds s2 a ci)[j]? = none := fun s2 => List.getElem?_eq_none_iff.mpr (by rw [flds_len]; omega)
    rw [e1, e1]
    by_cases hk : k = j
    · subst hk
      rw [if_pos rfl, if_neg hj]
    · rw [if_neg hk]
theorem HP_upO {sg : Hp} {a ci k : Nat} {x : Int32} (h : clsOf a = ci) (hc : ci < 11) (hI : fI ci k = true) : va_up (HP sg) a (.inr (ci, (flds sg a ci).set k (.int x))) = HP (va_up sg a (upd (sg a) k x)) := by
  funext i
  by_cases hi : i = a
  · subst hi
    rw [HP_obj h hc, ← flds_set hI]
    simp [va_up]
  · simp only [va_up, if_neg hi]
    unfold HP flds
    simp only [va_up, if_neg hi]
def FRC : List (List Nat) := [[99, 99, 99, 99], [20, 99], [20, 20, 20, 20, 20, 5, 99], [2, 5, 5, 0, 21, 20, 99, 99, 99, 99, 99], [20, 99, 99], [20], [99, 99, 99, 99, 99, 99, 99, 99], [2, 3, 20, 20, 20, 20], [20, 20, 99, 99], [2, 1, 3, 7, 8, 22, 6, 0, 5, 20, 99], [20, 20, 20, 20, 99, 20, 20, 20, 20, 99, 20, 20, 99, 99, 20, 20, 20, 20, 20, 20]]
def FRL : List (List Nat) := [[0, 0, 0, 0], [40, 0], [3, 8, 8, 8, 6, 1, 0], [7, 1, 1, 4, 5, 5, 0, 0, 0, 0, 0], [60, 0, 0], [6], [0, 0, 0, 0, 0, 0, 0, 0], [7, 11, 64, 64, 64, 64], [8, 8, 0, 0], [7, 2, 11, 6, 4, 4, 8, 4, 1, 3, 0], [4, 4, 240, 60, 0, 3, 24, 6, 40, 0, 560, 160, 0, 0, 5, 5, 6, 64, 8, 8]]
def frc (ci k : Nat) : Nat := (FRC.getD ci []).getD k 99
def frl (ci k : Nat) : Nat := (FRL.getD ci []).getD k 0
theorem rt_cls {a ci : Nat} (h : clsOf a = ci) (k : Nat) (hc : (decide (ci < 11) && decide (k < fN ci) && !fI ci k) = true) : clsOf (rt a k) = frc ci k ∧ lenOf (rt a k) = frl ci k := by
  have key : ∀ a, a < nC → clsOf a < 11 → ∀ k, k < fN (clsOf a) → fI (clsOf a) k = false → clsOf (rt a k) = frc (clsOf a) k ∧ lenOf (rt a k) = frl (clsOf a) k := by decide +kernel
  simp only [Bool.and_eq_true, decide_eq_true_eq, Bool.not_eq_true'] at hc
  obtain ⟨⟨h1, h2⟩, h3⟩ := hc
  subst h
  exact key a (cls_lt (by omega)) h1 k h2 h3
theorem rt_el {a t : Nat} (h : clsOf a = t) (ht : t = 21 ∨ t = 22) {j : Nat} (hj : j < lenOf a) : clsOf (rt a j) = (if t = 21 then 6 else 4) := by
  have key : ∀ a, a < nC → (clsOf a = 21 ∨ clsOf a = 22) → ∀ j, j < lenOf a → clsOf (rt a j) = (if clsOf a = 21 then 6 else 4) := by decide +kernel
  subst h
  exact key a (cls_lt (by omega)) ht j hj
/-! GO: from here, with these locals at least, the small machine comes to the end r, sg' -/
def lsub (lv ls : LSt) : Prop := ∀ q ∈ lv, lget ls q.1 = some q.2
def Go (d : Nat) (scr : Option (Nat × (Nat → Int32))) (m pc : Nat) (lv : LSt) (st : List Value) (sg : Hp) (r : Option Value) (sg' : Hp) : Prop := ∃ N : Nat, ∀ f : Nat, N ≤ f → ∀ ls : LSt, lsub lv ls → run f d scr m pc ls st (HSx sg) = some (r, HSx sg')
def Sm (d m : Nat) (as : List Value) (sg : Hp) (r : Option Value) (sg' : Hp) : Prop := ∃ N : Nat, ∀ f : Nat, N ≤ f → run f d none m 0 (lv_args 0 as) [] (HSx sg) = some (r, HSx sg')
theorem lv_args_low : ∀ (as : List Value) (i : Nat), ∀ q ∈ lv_args i as, i ≤ q.1 := by
  intro as
  induction as with
  | nil => intro i q h; cases h
  | cons v r ih =>
    intro i q h
    rcases List.mem_cons.mp h with rfl | h
    · exact Nat.le_refl _
    · have := ih _ q h
      split at this <;> omega
theorem lv_args_sub : ∀ (as : List Value) (i : Nat), lsub (lv_args i as) (lv_args i as) := by
  intro as
  induction as with
  | nil => intro i q h; cases h
  | cons v r ih =>
    intro i q h
    show (if i = q.1 then some v else lget (lv_args (if v.category = 2 then i + 2 else i + 1) r) q.1) = some q.2
    rcases List.mem_cons.mp h with rfl | h
    · rw [if_pos rfl]
    · have h1 := lv_args_low _ _ q h
      rw [if_neg (by split at h1 <;> omega)]
      exact ih _ q h
theorem Sm.of {d m : Nat} {as : List Value} {sg sg' : Hp} {r : Option Value} {lv : LSt} (hlv : lv_args 0 as = lv) (h : Go d none m 0 lv [] sg r sg') : Sm d m as sg r sg' := by
  subst hlv
  obtain ⟨N, hN⟩ := h
  exact ⟨N, fun f hf => hN f hf _ (lv_args_sub as 0)⟩
def lvs : LSt → LSt → Prop
  | [], _ => True
  | q :: r, lv => lget lv q.1 = some q.2 ∧ lvs r lv
theorem lvs_mem : ∀ (l lv : LSt), lvs l lv → ∀ q ∈ l, q ∈ lv := by
  intro l
  induction l with
  | nil => intro lv _ q h; cases h
  | cons w r ih =>
    intro lv h q hq
    rcases List.mem_cons.mp hq with rfl | hq
    · exact lget_mem h.1
    · exact ih lv h.2 q hq
theorem Go.weak {d m pc : Nat} {scr : Option (Nat × (Nat → Int32))} {lv lv' : LSt} {st : List Value} {sg sg' : Hp} {r : Option Value} (h : lvs lv' lv) (k : Go d scr m pc lv' st sg r sg') : Go d scr m pc lv st sg r sg' := by
  obtain ⟨N, hN⟩ := k
  exact ⟨N, fun f hf ls hl => hN f hf ls (fun q hq => hl q (lvs_mem _ _ h q hq))⟩
theorem lget_filter {p : Nat × Value → Bool} : ∀ (ls : LSt) (j : Nat) (w : Value), lget ls j = some w → p (j, w) = true → lget (ls.filter p) j = some w := by
  intro ls
  induction ls with
  | nil => intro j w h _; cases h
  | cons q r ih =>
    intro j w h hp
    obtain ⟨i, v⟩ := q
    unfold lget at h
    by_cases hi : i = j
    · rw [if_pos hi] at h
      cases h
      subst hi
      rw [List.filter_cons_of_pos hp]
      unfold lget
      rw [if_pos rfl]
    · rw [if_neg hi] at h
      by_cases hq : p (i, v) = true
      · rw [List.filter_cons_of_pos hq]
        unfold lget
        rw [if_neg hi]
        exact ih j w h hp
      · rw [List.filter_cons_of_neg hq]
        exact ih j w h hp
theorem lsub_put1 {lv ls : LSt} {k : Nat} {v : Value} (h : lsub lv ls) : lsub (lput1 lv k v) (lput1 ls k v) := by
  intro q hq
  unfold lput1 at hq ⊢
  show (if k = q.1 then some v else lget (ls.filter (fun q => !(q.1 == k) && !(q.1 + 1 == k && q.2.category == 2))) q.1) = some q.2
  rcases List.mem_cons.mp hq with rfl | hq
  · rw [if_pos rfl]
  · obtain ⟨h1, h2⟩ := List.mem_filter.mp hq
    have h3 : ¬ k = q.1 := by
      intro e
      simp [e] at h2
    rw [if_neg h3]
    exact lget_filter ls q.1 q.2 (h q h1) h2
theorem lsub_put2 {lv ls : LSt} {k : Nat} {v : Value} (h : lsub lv ls) : lsub (lput2 lv k v) (lput2 ls k v) := by
  intro q hq
  unfold lput2 at hq ⊢
  show (if k = q.1 then some v else lget (ls.filter (fun q => !(q.1 == k) && (!(q.1 == k + 1) && !(q.1 + 1 == k && q.2.category == 2)))) q.1) = some q.2
  rcases List.mem_cons.mp hq with rfl | hq
  · rw [if_pos rfl]
  · obtain ⟨h1, h2⟩ := List.mem_filter.mp hq
    have h3 : ¬ k = q.1 := by
      intro e
      simp [e] at h2
    rw [if_neg h3]
    exact lget_filter ls q.1 q.2 (h q h1) h2
def ctl : Instr → Bool
  | .ireturn => true
  | .lreturn => true
  | .return_ => true
  | .goto _ => true
  | .ifCond _ _ => true
  | .if_icmp _ _ => true
  | .tableswitch _ _ _ _ => true
  | .lookupswitch _ _ => true
  | .invokevirtual _ => true
  | .invokespecial _ => true
  | .invokestatic _ => true
  | _ => false
def w2 (sg : Hp) (c k : Nat) (x : Int32) : Hp := va_up sg c (upd (sg c) k x)
def cp2 (sg : Hp) (a b : Nat) (sp dp n : Int32) : Hp := va_up sg b (va_cpy (sg a) (sg b) sp.toNatClampNeg dp.toNatClampNeg n.toNatClampNeg)
section GS
variable {d m pc np : Nat} {scr : Option (Nat × (Nat → Int32))} {lv : LSt} {st : List Value} {sg sg' : Hp} {r : Option Value}
theorem run_ctl {f : Nat} {i : Instr} {ls : LSt} {h : HS} (hi : ins m pc = some (i, np)) : run (f + 1) d scr m pc ls st h = (match (some (i, np) : Option (Instr × Nat)) with
    | none => none
    | some (i, np) =>
      let call : Nat → Nat → Bool → Option (Option Value × HS) := fun k na rc => match (generalizing := false) d with
        | 0 => none
        | d + 1 => if na ≤ st.length ∧ k < nMeth ∧ ((st.drop na).map fun v => v.category).sum ≤ 8 ∧ (((st.take na).reverse).map fun v => v.category).sum ≤ ML k ∧ (rc = true → rcv k (st.take na).reverse h = true) then
            match run f d none k 0 (lv_args 0 (st.take na).reverse) [] h with
            | some (r, h') => run f (d + 1) scr m np ls (r.toList ++ st.drop na) h'
            | none => none
          else none
      match i with
      | .ireturn => match st with
        | [.int v] => if retZ m v = true then some (some (.int v), h) else none
        | _ => none
      | .lreturn => match st with
        | [.long v] => if MR m = some .long then some (some (.long v), h) else none
        | _ => none
      | .return_ => match st with
        | [] => if MR m = none then some (none, h) else none
        | _ => none
      | .goto t => run f d scr m t.toNat ls st h
      | .ifCond c t => match st with
        | .int x :: st => if cnd c x 0 = true then run f d scr m t.toNat ls st h else run f d scr m np ls st h
        | _ => none
      | .if_icmp c t => match st with
        | .int y :: .int x :: st => if cnd c x y = true then run f d scr m t.toNat ls st h else run f d scr m np ls st h
        | _ => none
      | .tableswitch df lo hi os => match st with
        | .int x :: st => if x.toInt < lo ∨ hi < x.toInt then run f d scr m df.toNat ls st h else match os.toList[(x.toInt - lo).toNat]? with
          | some t => run f d scr m t.toNat ls st h
          | none => none
        | _ => none
      | .lookupswitch df ps => match st with
        | .int x :: st => run f d scr m (swl ps.toList df x.toInt).toNat ls st h
        | _ => none
      | .invokevirtual e => call (e % 1000) (MP (e % 1000) + 1) true
      | .invokespecial e => if e % 1000 < 500 then call (e % 1000) (MP (e % 1000) + 1) true else if d = 0 then none else match own5 (e % 1000) st h with
        | some (st', h') => run f d scr m np ls st' h'
        | none => none
      | .invokestatic e => if e % 1000 < 500 then call (e % 1000) (MP (e % 1000)) false else if d = 0 then none else match own5 (e % 1000) st h with
        | some (st', h') => run f d scr m np ls st' h'
        | none => none
      | i => match stp scr i (ML m) ls st h with
        | some (ls', st', h') => run f d scr m np ls' st' h'
        | none => none) := by
  rw [← hi]
  rfl
theorem run_stp {f : Nat} {i : Instr} {ls ls' : LSt} {st' : List Value} {h h' : HS} (hi : ins m pc = some (i, np)) (hc : ctl i = false) (hs : stp scr i (ML m) ls st h = some (ls', st', h')) : run (f + 1) d scr m pc ls st h = run f d scr m np ls' st' h' := by
  rw [run_ctl hi]
  cases i <;> first | (cases hc; done) | (dsimp only; rw [hs])
theorem G_stp {i : Instr} {lv' : LSt} {st' : List Value} {sg1 : Hp} (hi : ins m pc = some (i, np)) (hc : ctl i = false) (hs : ∀ ls, lsub lv ls → ∃ ls', lsub lv' ls' ∧ stp scr i (ML m) ls st (HSx sg) = some (ls', st', HSx sg1)) (k : Go d scr m np lv' st' sg1 r sg') : Go d scr m pc lv st sg r sg' := by
  obtain ⟨N, hN⟩ := k
  refine ⟨N + 1, fun f hf ls hl => ?_⟩
  obtain ⟨ls', h1, h2⟩ := hs ls hl
  obtain ⟨g, rfl⟩ : ∃ g, f = g + 1 := ⟨f - 1, by omega⟩
  rw [run_stp hi hc h2]
  exact hN g (by omega) ls' h1
theorem G_iconst {n : Int} (v : Int32) (hi : ins m pc = some (.iconst n, np)) (hv : Int32.ofInt n = v) (k : Go d scr m np lv (.int v :: st) sg r sg') : Go d scr m pc lv st sg r sg' := by
  subst hv
  exact G_stp hi rfl (fun ls hl => ⟨ls, hl, rfl⟩) k
theorem G_lconst {n : Fin 2} (v : Int64) (hi : ins m pc = some (.lconst n, np)) (hv : Int64.ofNat (n : Nat) = v) (k : Go d scr m np lv (.long v :: st) sg r sg') : Go d scr m pc lv st sg r sg' := by
  subst hv
  exact G_stp hi rfl (fun ls hl => ⟨ls, hl, rfl⟩) k
theorem G_ldc {j : Nat} (v : Int32) (hi : ins m pc = some (.ldc j, np)) (hv : kIv j = v) (k : Go d scr m np lv (.int v :: st) sg r sg') : Go d scr m pc lv st sg r sg' := by
  subst hv
  exact G_stp hi rfl (fun ls hl => ⟨ls, hl, rfl⟩) k
theorem G_ldc2 {j : Nat} (v : Int64) (hi : ins m pc = some (.ldc2_w j, np)) (hv : kLv j = v) (k : Go d scr m np lv (.long v :: st) sg r sg') : Go d scr m pc lv st sg r sg' := by
  subst hv
  exact G_stp hi rfl (fun ls hl => ⟨ls, hl, rfl⟩) k
theorem G_iload {j : Nat} {v : Int32} (hi : ins m pc = some (.iload j, np)) (hj : lget lv j = some (.int v)) (k : Go d scr m np lv (.int v :: st) sg r sg') : Go d scr m pc lv st sg r sg' :=
  G_stp hi rfl (fun ls hl => ⟨ls, hl, by simp only [stp, hl _ (lget_mem hj)]⟩) k
theorem G_lload {j : Nat} {v : Int64} (hi : ins m pc = some (.lload j, np)) (hj : lget lv j = some (.long v)) (k : Go d scr m np lv (.long v :: st) sg r sg') : Go d scr m pc lv st sg r sg' :=
  G_stp hi rfl (fun ls hl => ⟨ls, hl, by simp only [stp, hl _ (lget_mem hj)]⟩) k
theorem G_aload {j : Nat} {v : Nat} (hi : ins m pc = some (.aload j, np)) (hj : lget lv j = some (.ref v)) (k : Go d scr m np lv (.ref v :: st) sg r sg') : Go d scr m pc lv st sg r sg' :=
  G_stp hi rfl (fun ls hl => ⟨ls, hl, by simp only [stp, hl _ (lget_mem hj)]⟩) k
theorem G_istore {j : Nat} {v : Int32} (hi : ins m pc = some (.istore j, np)) (hj : Nat.blt j (ML m) = true) (k : Go d scr m np (lput1 lv j (.int v)) st sg r sg') : Go d scr m pc lv (.int v :: st) sg r sg' :=
  G_stp hi rfl (fun ls hl => ⟨lput1 ls j (.int v), lsub_put1 hl, by simp only [stp]; exact if_pos (Nat.le_of_ble_eq_true hj)⟩) k
theorem G_astore {j : Nat} {v : Nat} (hi : ins m pc = some (.astore j, np)) (hj : Nat.blt j (ML m) = true) (k : Go d scr m np (lput1 lv j (.ref v)) st sg r sg') : Go d scr m pc lv (.ref v :: st) sg r sg' :=
  G_stp hi rfl (fun ls hl => ⟨lput1 ls j (.ref v), lsub_put1 hl, by simp only [stp]; exact if_pos (Nat.le_of_ble_eq_true hj)⟩) k
theorem G_lstore {j : Nat} {v : Int64} (hi : ins m pc = some (.lstore j, np)) (hj : Nat.blt (j + 1) (ML m) = true) (k : Go d scr m np (lput2 lv j (.long v)) st sg r sg') : Go d scr m pc lv (.long v :: st) sg r sg' :=
  G_stp hi rfl (fun ls hl => ⟨lput2 ls j (.long v), lsub_put2 hl, by simp only [stp]; exact if_pos (Nat.le_of_ble_eq_true hj)⟩) k
theorem G_iinc {j : Nat} {n : Int} {v : Int32} (w : Int32) (hi : ins m pc = some (.iinc j n, np)) (hw : Int32.ofInt n = w) (hj : Nat.blt j (ML m) = true) (hg : lget lv j = some (.int v)) (k : Go d scr m np (lput1 lv j (.int (v + w))) st sg r sg') : Go d scr m pc lv st sg r sg' := by
  subst hw
  exact G_stp hi rfl (fun ls hl => ⟨lput1 ls j (.int (v + Int32.ofInt n)), lsub_put1 hl, by simp only [stp, hl _ (lget_mem hg)]; exact if_pos (Nat.le_of_ble_eq_true hj)⟩) k
theorem G_iadd {x y : Int32} (hi : ins m pc = some (.iadd, np)) (k : Go d scr m np lv (.int (x + y) :: st) sg r sg') : Go d scr m pc lv (.int y :: .int x :: st) sg r sg' :=
  G_stp hi rfl (fun ls hl => ⟨ls, hl, rfl⟩) k
theorem G_isub {x y : Int32} (hi : ins m pc = some (.isub, np)) (k : Go d scr m np lv (.int (x - y) :: st) sg r sg') : Go d scr m pc lv (.int y :: .int x :: st) sg r sg' :=
  G_stp hi rfl (fun ls hl => ⟨ls, hl, rfl⟩) k
theorem G_imul {x y : Int32} (hi : ins m pc = some (.imul, np)) (k : Go d scr m np lv (.int (x * y) :: st) sg r sg') : Go d scr m pc lv (.int y :: .int x :: st) sg r sg' :=
  G_stp hi rfl (fun ls hl => ⟨ls, hl, rfl⟩) k
theorem G_iand {x y : Int32} (hi : ins m pc = some (.iand, np)) (k : Go d scr m np lv (.int (x &&& y) :: st) sg r sg') : Go d scr m pc lv (.int y :: .int x :: st) sg r sg' :=
  G_stp hi rfl (fun ls hl => ⟨ls, hl, rfl⟩) k
theorem G_ior {x y : Int32} (hi : ins m pc = some (.ior, np)) (k : Go d scr m np lv (.int (x ||| y) :: st) sg r sg') : Go d scr m pc lv (.int y :: .int x :: st) sg r sg' :=
  G_stp hi rfl (fun ls hl => ⟨ls, hl, rfl⟩) k
theorem G_ixor {x y : Int32} (hi : ins m pc = some (.ixor, np)) (k : Go d scr m np lv (.int (x ^^^ y) :: st) sg r sg') : Go d scr m pc lv (.int y :: .int x :: st) sg r sg' :=
  G_stp hi rfl (fun ls hl => ⟨ls, hl, rfl⟩) k
theorem G_ishl {x y : Int32} (hi : ins m pc = some (.ishl, np)) (k : Go d scr m np lv (.int (x <<< (y &&& 31)) :: st) sg r sg') : Go d scr m pc lv (.int y :: .int x :: st) sg r sg' :=
  G_stp hi rfl (fun ls hl => ⟨ls, hl, rfl⟩) k
theorem G_ishr {x y : Int32} (hi : ins m pc = some (.ishr, np)) (k : Go d scr m np lv (.int (x >>> (y &&& 31)) :: st) sg r sg') : Go d scr m pc lv (.int y :: .int x :: st) sg r sg' :=
  G_stp hi rfl (fun ls hl => ⟨ls, hl, rfl⟩) k
theorem G_iushr {x y : Int32} (hi : ins m pc = some (.iushr, np)) (k : Go d scr m np lv (.int ((x.toUInt32 >>> (y.toUInt32 &&& Int32.toUInt32 31)).toInt32) :: st) sg r sg') : Go d scr m pc lv (.int y :: .int x :: st) sg r sg' :=
  G_stp hi rfl (fun ls hl => ⟨ls, hl, rfl⟩) k
theorem G_idiv {x y : Int32} (hi : ins m pc = some (.idiv, np)) (hy : ¬ y = 0) (k : Go d scr m np lv (.int (x / y) :: st) sg r sg') : Go d scr m pc lv (.int y :: .int x :: st) sg r sg' :=
  G_stp hi rfl (fun ls hl => ⟨ls, hl, by simp only [stp]; rw [if_neg hy]⟩) k
theorem G_irem {x y : Int32} (hi : ins m pc = some (.irem, np)) (hy : ¬ y = 0) (k : Go d scr m np lv (.int (x - x / y * y) :: st) sg r sg') : Go d scr m pc lv (.int y :: .int x :: st) sg r sg' :=
  G_stp hi rfl (fun ls hl => ⟨ls, hl, by simp only [stp]; rw [if_neg hy]⟩) k
theorem G_ineg {x : Int32} (hi : ins m pc = some (.ineg, np)) (k : Go d scr m np lv (.int (-x) :: st) sg r sg') : Go d scr m pc lv (.int x :: st) sg r sg' :=
  G_stp hi rfl (fun ls hl => ⟨ls, hl, rfl⟩) k
theorem G_i2l {x : Int32} (hi : ins m pc = some (.i2l, np)) (k : Go d scr m np lv (.long (x.toInt64) :: st) sg r sg') : Go d scr m pc lv (.int x :: st) sg r sg' :=
  G_stp hi rfl (fun ls hl => ⟨ls, hl, rfl⟩) k
theorem G_i2b {x : Int32} (hi : ins m pc = some (.i2b, np)) (k : Go d scr m np lv (.int (x.toInt8.toInt32) :: st) sg r sg') : Go d scr m pc lv (.int x :: st) sg r sg' :=
  G_stp hi rfl (fun ls hl => ⟨ls, hl, rfl⟩) k
theorem G_i2s {x : Int32} (hi : ins m pc = some (.i2s, np)) (k : Go d scr m np lv (.int (x.toInt16.toInt32) :: st) sg r sg') : Go d scr m pc lv (.int x :: st) sg r sg' :=
  G_stp hi rfl (fun ls hl => ⟨ls, hl, rfl⟩) k
theorem G_ladd {x y : Int64} (hi : ins m pc = some (.ladd, np)) (k : Go d scr m np lv (.long (x + y) :: st) sg r sg') : Go d scr m pc lv (.long y :: .long x :: st) sg r sg' :=
  G_stp hi rfl (fun ls hl => ⟨ls, hl, rfl⟩) k
theorem G_lmul {x y : Int64} (hi : ins m pc = some (.lmul, np)) (k : Go d scr m np lv (.long (x * y) :: st) sg r sg') : Go d scr m pc lv (.long y :: .long x :: st) sg r sg' :=
  G_stp hi rfl (fun ls hl => ⟨ls, hl, rfl⟩) k
theorem G_lcmp {x y : Int64} (hi : ins m pc = some (.lcmp, np)) (k : Go d scr m np lv (.int (lg_cmp x y) :: st) sg r sg') : Go d scr m pc lv (.long y :: .long x :: st) sg r sg' :=
  G_stp hi rfl (fun ls hl => ⟨ls, hl, rfl⟩) k
theorem G_dupi {x : Int32} (hi : ins m pc = some (.dup, np)) (k : Go d scr m np lv (.int x :: .int x :: st) sg r sg') : Go d scr m pc lv (.int x :: st) sg r sg' := G_stp hi rfl (fun ls hl => ⟨ls, hl, rfl⟩) k
theorem G_dupr {x : Nat} (hi : ins m pc = some (.dup, np)) (k : Go d scr m np lv (.ref x :: .ref x :: st) sg r sg') : Go d scr m pc lv (.ref x :: st) sg r sg' := G_stp hi rfl (fun ls hl => ⟨ls, hl, rfl⟩) k
theorem G_pop {x : Int32} (hi : ins m pc = some (.pop, np)) (k : Go d scr m np lv st sg r sg') : Go d scr m pc lv (.int x :: st) sg r sg' := G_stp hi rfl (fun ls hl => ⟨ls, hl, rfl⟩) k
theorem G_dup2 {x : Nat} {y : Int32} (hi : ins m pc = some (.dup2, np)) (k : Go d scr m np lv (.int y :: .ref x :: .int y :: .ref x :: st) sg r sg') : Go d scr m pc lv (.int y :: .ref x :: st) sg r sg' := G_stp hi rfl (fun ls hl => ⟨ls, hl, rfl⟩) k
theorem stp_getf {e a ci : Nat} {ls : LSt} (hc : clsOf a = ci) (he : (decide (ci < 11) && decide (e / 100 % 100 = ci) && decide (e % 100 < fN ci)) = true) : stp scr (.getfield e) (ML m) ls (.ref a :: st) (HSx sg) = some (ls, (if fI ci (e % 100) then .int (sg a (e % 100)) else .ref (rt a (e % 100))) :: st, HSx sg) := by
  simp only [Bool.and_eq_true, decide_eq_true_eq] at he
  obtain ⟨⟨h1, h2⟩, h3⟩ := he
  have hlt : a < nC := cls_lt (by omega)
  have hd : decide (a < (HSx sg).2.1) = true := decide_eq_true hlt
  have hh : (HSx sg).1 a = .inr (ci, flds sg a ci) := HP_obj hc h1
  simp only [stp, hd, hh]
  rw [if_pos h2.symm, flds_get h3]
theorem G_getI {e : Nat} {a ci : Nat} (kk : Nat) (hi : ins m pc = some (.getfield e, np)) (hc : clsOf a = ci) (he : (decide (ci < 11) && decide (e / 100 % 100 = ci) && decide (e % 100 < fN ci)) = true) (hI : fI ci (e % 100) = true) (hk : e % 100 = kk) (k : Go d scr m np lv (.int (sg a kk) :: st) sg r sg') : Go d scr m pc lv (.ref a :: st) sg r sg' := by
  subst hk
  refine G_stp hi rfl (fun ls hl => ⟨ls, hl, ?_⟩) k
  rw [stp_getf hc he, if_pos hI]
theorem G_getR {e : Nat} {a ci : Nat} (b : Nat) (hi : ins m pc = some (.getfield e, np)) (hc : clsOf a = ci) (he : (decide (ci < 11) && decide (e / 100 % 100 = ci) && decide (e % 100 < fN ci)) = true) (hI : fI ci (e % 100) = false) (hb : rt a (e % 100) = b) (k : Go d scr m np lv (.ref b :: st) sg r sg') : Go d scr m pc lv (.ref a :: st) sg r sg' := by
  subst hb
  refine G_stp hi rfl (fun ls hl => ⟨ls, hl, ?_⟩) k
  rw [stp_getf hc he, if_neg (by rw [hI]; decide)]
theorem G_putI {e : Nat} {a ci : Nat} {x : Int32} (kk : Nat) (hi : ins m pc = some (.putfield e, np)) (hc : clsOf a = ci) (he : (decide (ci < 11) && decide (e / 100 % 100 = ci) && decide (e % 100 < fN ci)) = true) (hI : fI ci (e % 100) = true) (hk : e % 100 = kk) (k : Go d scr m np lv st (w2 sg a kk x) r sg') : Go d scr m pc lv (.int x :: .ref a :: st) sg r sg' := by
  subst hk
  refine G_stp hi rfl (fun ls hl => ⟨ls, hl, ?_⟩) k
  simp only [Bool.and_eq_true, decide_eq_true_eq] at he
  obtain ⟨⟨h1, h2⟩, h3⟩ := he
  have hlt : a < nC := cls_lt (by omega)
  have hd : decide (a < (HSx sg).2.1) = true := decide_eq_true hlt
  have hh : (HSx sg).1 a = .inr (ci, flds sg a ci) := HP_obj hc h1
  simp only [stp, hd, hh]
  rw [if_pos ⟨h2.symm, by rw [flds_len]; exact h3, hI⟩]
  show some (ls, st, va_up (HP sg) a _, _) = _
  rw [HP_upO hc h1 hI]
  rfl
theorem G_iald {a n : Nat} {j : Int32} (hi : ins m pc = some (.iaload, np)) (hc : clsOf a = 20) (hn : lenOf a = n) (hj : inb j n = true) (k : Go d scr m np lv (.int (sg a j.toNatClampNeg) :: st) sg r sg') : Go d scr m pc lv (.int j :: .ref a :: st) sg r sg' := by
  subst hn
  refine G_stp hi rfl (fun ls hl => ⟨ls, hl, ?_⟩) k
  have hlt : a < nC := cls_lt (by omega)
  have hd : decide (a < (HSx sg).2.1) = true := decide_eq_true hlt
  have hh : (HSx sg).1 a = .inl (0, lenOf a, .inl (sg a)) := HP_arr hc
  have h8 : nC < 999999 := by decide
  have h9 : ¬ a = 999999 := by omega
  simp only [stp, hd, hh]
  rw [if_neg h9, if_pos hj]
theorem G_iast {a n : Nat} {j x : Int32} (hi : ins m pc = some (.iastore, np)) (hc : clsOf a = 20) (hn : lenOf a = n) (hj : inb j n = true) (k : Go d scr m np lv st (w2 sg a j.toNatClampNeg x) r sg') : Go d scr m pc lv (.int x :: .int j :: .ref a :: st) sg r sg' := by
  subst hn
  refine G_stp hi rfl (fun ls hl => ⟨ls, hl, ?_⟩) k
  have hlt : a < nC := cls_lt (by omega)
  have hd : decide (a < (HSx sg).2.1) = true := decide_eq_true hlt
  have hh : (HSx sg).1 a = .inl (0, lenOf a, .inl (sg a)) := HP_arr hc
  simp only [stp, hd, hh]
  rw [if_pos hj]
  show some (ls, st, va_up (HP sg) a _, _) = _
  rw [HP_upA _ hc]
  rfl
theorem inb_lt {j : Int32} {n : Nat} (h : inb j n = true) : j.toNatClampNeg < n := by
  have h3 := inb_in h
  exact Nat.not_le.mp fun q => h3 (Or.inr q)
theorem G_aald {a n t : Nat} {j : Int32} (hi : ins m pc = some (.aaload, np)) (hc : clsOf a = t) (ht : t = 21 ∨ t = 22) (hn : lenOf a = n) (hj : inb j n = true) (k : Go d scr m np lv (.ref (rt a j.toNatClampNeg) :: st) sg r sg') : Go d scr m pc lv (.int j :: .ref a :: st) sg r sg' := by
  subst hn
  refine G_stp hi rfl (fun ls hl => ⟨ls, hl, ?_⟩) k
  have hlt : a < nC := cls_lt (by omega)
  have hd : decide (a < (HSx sg).2.1) = true := decide_eq_true hlt
  have hlj := inb_lt hj
  rcases ht with rfl | rfl
  · have hh : (HSx sg).1 a = .inl (1, lenOf a, .inr (.inr (.inr (.inr (fun j => if j < lenOf a then some (rt a j) else none))))) := by show HP sg a = _; unfold HP; rw [if_neg (by omega), if_pos hc]
    simp only [stp, hd, hh]
    simp [hj, hlj]
  · have hh : (HSx sg).1 a = .inl (2, lenOf a, .inr (.inr (.inr (.inr (fun j => if j < lenOf a then some (rt a j) else none))))) := by show HP sg a = _; unfold HP; rw [if_neg (by omega), if_neg (by omega), if_pos hc]
    simp only [stp, hd, hh]
    simp [hj, hlj]
theorem G_sld {L : Nat} {xs : Nat → Int32} {j : Int32} (hi : ins m pc = some (.iaload, np)) (hs : scr = some (L, xs)) (hj : inb j L = true) (k : Go d scr m np lv (.int (xs j.toNatClampNeg) :: st) sg r sg') : Go d scr m pc lv (.int j :: .ref 999999 :: st) sg r sg' := by
  subst hs
  refine G_stp hi rfl (fun ls hl => ⟨ls, hl, ?_⟩) k
  simp only [stp]
  rw [if_pos trivial, if_pos hj]
theorem G_slen {L : Nat} {xs : Nat → Int32} (hi : ins m pc = some (.arraylength, np)) (hs : scr = some (L, xs)) (k : Go d scr m np lv (.int (Int32.ofNat L) :: st) sg r sg') : Go d scr m pc lv (.ref 999999 :: st) sg r sg' := by
  subst hs
  exact G_stp hi rfl (fun ls hl => ⟨ls, hl, rfl⟩) k
theorem Go.step {pc2 : Nat} {st2 : List Value} (h : ∀ f ls, lsub lv ls → run (f + 1) d scr m pc ls st (HSx sg) = run f d scr m pc2 ls st2 (HSx sg)) (k : Go d scr m pc2 lv st2 sg r sg') : Go d scr m pc lv st sg r sg' := by
  obtain ⟨N, hN⟩ := k
  refine ⟨N + 1, fun f hf ls hl => ?_⟩
  obtain ⟨g, rfl⟩ : ∃ g, f = g + 1 := ⟨f - 1, by omega⟩
  rw [h g ls hl]
  exact hN g (by omega) ls hl
theorem Go.ret {r : Option Value} (h : ∀ f ls, run (f + 1) d scr m pc ls st (HSx sg) = some (r, HSx sg)) : Go d scr m pc lv st sg r sg := by
  refine ⟨1, fun f hf ls hl => ?_⟩
  obtain ⟨g, rfl⟩ : ∃ g, f = g + 1 := ⟨f - 1, by omega⟩
  exact h g ls
theorem G_iret {v : Int32} (hi : ins m pc = some (.ireturn, np)) (hz : retZ m v = true) : Go d scr m pc lv [.int v] sg (some (.int v)) sg := Go.ret fun f ls => by
  rw [run_ctl hi]; exact if_pos hz
theorem G_lret {v : Int64} (hi : ins m pc = some (.lreturn, np)) (hz : MR m = some .long) : Go d scr m pc lv [.long v] sg (some (.long v)) sg := Go.ret fun f ls => by
  rw [run_ctl hi]; exact if_pos hz
theorem G_vret (hi : ins m pc = some (.return_, np)) (hz : MR m = none) : Go d scr m pc lv [] sg none sg := Go.ret fun f ls => by
  rw [run_ctl hi]; exact if_pos hz
theorem G_goto {t : Int} (t' : Nat) (hi : ins m pc = some (.goto t, np)) (ht : t.toNat = t') (k : Go d scr m t' lv st sg r sg') : Go d scr m pc lv st sg r sg' := by
  subst ht
  exact Go.step (fun f ls _ => by rw [run_ctl hi]) k
theorem G_if_eq {x : Int32} {t : Int} (t' : Nat) (hi : ins m pc = some (.ifCond .eq t, np)) (ht : t.toNat = t') (kt : x = 0 → Go d scr m t' lv st sg r sg') (kf : ¬ x = 0 → Go d scr m np lv st sg r sg') : Go d scr m pc lv (.int x :: st) sg r sg' := by
  subst ht
  by_cases hq : x = 0
  · exact Go.step (fun f ls _ => by rw [run_ctl hi]; exact if_pos (decide_eq_true hq)) (kt hq)
  · exact Go.step (fun f ls _ => by rw [run_ctl hi]; exact if_neg (fun q => hq (of_decide_eq_true q))) (kf hq)
theorem G_if_ne {x : Int32} {t : Int} (t' : Nat) (hi : ins m pc = some (.ifCond .ne t, np)) (ht : t.toNat = t') (kt : ¬ x = 0 → Go d scr m t' lv st sg r sg') (kf : x = 0 → Go d scr m np lv st sg r sg') : Go d scr m pc lv (.int x :: st) sg r sg' := by
  subst ht
  by_cases hq : x = 0
  · exact Go.step (fun f ls _ => by rw [run_ctl hi]; exact if_neg (fun q => absurd hq (of_decide_eq_true q))) (kf hq)
  · exact Go.step (fun f ls _ => by rw [run_ctl hi]; exact if_pos (decide_eq_true hq)) (kt hq)
theorem G_if_lt {x : Int32} {t : Int} (t' : Nat) (hi : ins m pc = some (.ifCond .lt t, np)) (ht : t.toNat = t') (kt : x < 0 → Go d scr m t' lv st sg r sg') (kf : ¬ x < 0 → Go d scr m np lv st sg r sg') : Go d scr m pc lv (.int x :: st) sg r sg' := by
  subst ht
  by_cases hq : x < 0
  · exact Go.step (fun f ls _ => by rw [run_ctl hi]; exact if_pos (decide_eq_true hq)) (kt hq)
  · exact Go.step (fun f ls _ => by rw [run_ctl hi]; exact if_neg (fun q => hq (of_decide_eq_true q))) (kf hq)
theorem G_if_ge {x : Int32} {t : Int} (t' : Nat) (hi : ins m pc = some (.ifCond .ge t, np)) (ht : t.toNat = t') (kt : 0 ≤ x → Go d scr m t' lv st sg r sg') (kf : ¬ 0 ≤ x → Go d scr m np lv st sg r sg') : Go d scr m pc lv (.int x :: st) sg r sg' := by
  subst ht
  by_cases hq : 0 ≤ x
  · exact Go.step (fun f ls _ => by rw [run_ctl hi]; exact if_pos (decide_eq_true hq)) (kt hq)
  · exact Go.step (fun f ls _ => by rw [run_ctl hi]; exact if_neg (fun q => hq (of_decide_eq_true q))) (kf hq)
theorem G_if_gt {x : Int32} {t : Int} (t' : Nat) (hi : ins m pc = some (.ifCond .gt t, np)) (ht : t.toNat = t') (kt : 0 < x → Go d scr m t' lv st sg r sg') (kf : ¬ 0 < x → Go d scr m np lv st sg r sg') : Go d scr m pc lv (.int x :: st) sg r sg' := by
  subst ht
  by_cases hq : 0 < x
  · exact Go.step (fun f ls _ => by rw [run_ctl hi]; exact if_pos (decide_eq_true hq)) (kt hq)
  · exact Go.step (fun f ls _ => by rw [run_ctl hi]; exact if_neg (fun q => hq (of_decide_eq_true q))) (kf hq)
theorem G_if_le {x : Int32} {t : Int} (t' : Nat) (hi : ins m pc = some (.ifCond .le t, np)) (ht : t.toNat = t') (kt : x ≤ 0 → Go d scr m t' lv st sg r sg') (kf : ¬ x ≤ 0 → Go d scr m np lv st sg r sg') : Go d scr m pc lv (.int x :: st) sg r sg' := by
  subst ht
  by_cases hq : x ≤ 0
  · exact Go.step (fun f ls _ => by rw [run_ctl hi]; exact if_pos (decide_eq_true hq)) (kt hq)
  · exact Go.step (fun f ls _ => by rw [run_ctl hi]; exact if_neg (fun q => hq (of_decide_eq_true q))) (kf hq)
theorem G_ic_eq {x y : Int32} {t : Int} (t' : Nat) (hi : ins m pc = some (.if_icmp .eq t, np)) (ht : t.toNat = t') (kt : x = y → Go d scr m t' lv st sg r sg') (kf : ¬ x = y → Go d scr m np lv st sg r sg') : Go d scr m pc lv (.int y :: .int x :: st) sg r sg' := by
  subst ht
  by_cases hq : x = y
  · exact Go.step (fun f ls _ => by rw [run_ctl hi]; exact if_pos (decide_eq_true hq)) (kt hq)
  · exact Go.step (fun f ls _ => by rw [run_ctl hi]; exact if_neg (fun q => hq (of_decide_eq_true q))) (kf hq)
theorem G_ic_ne {x y : Int32} {t : Int} (t' : Nat) (hi : ins m pc = some (.if_icmp .ne t, np)) (ht : t.toNat = t') (kt : ¬ x = y → Go d scr m t' lv st sg r sg') (kf : x = y → Go d scr m np lv st sg r sg') : Go d scr m pc lv (.int y :: .int x :: st) sg r sg' := by
  subst ht
  by_cases hq : x = y
  · exact Go.step (fun f ls _ => by rw [run_ctl hi]; exact if_neg (fun q => absurd hq (of_decide_eq_true q))) (kf hq)
  · exact Go.step (fun f ls _ => by rw [run_ctl hi]; exact if_pos (decide_eq_true hq)) (kt hq)
theorem G_ic_lt {x y : Int32} {t : Int} (t' : Nat) (hi : ins m pc = some (.if_icmp .lt t, np)) (ht : t.toNat = t') (kt : x < y → Go d scr m t' lv st sg r sg') (kf : ¬ x < y → Go d scr m np lv st sg r sg') : Go d scr m pc lv (.int y :: .int x :: st) sg r sg' := by
  subst ht
  by_cases hq : x < y
  · exact Go.step (fun f ls _ => by rw [run_ctl hi]; exact if_pos (decide_eq_true hq)) (kt hq)
  · exact Go.step (fun f ls _ => by rw [run_ctl hi]; exact if_neg (fun q => hq (of_decide_eq_true q))) (kf hq)
theorem G_ic_ge {x y : Int32} {t : Int} (t' : Nat) (hi : ins m pc = some (.if_icmp .ge t, np)) (ht : t.toNat = t') (kt : y ≤ x → Go d scr m t' lv st sg r sg') (kf : ¬ y ≤ x → Go d scr m np lv st sg r sg') : Go d scr m pc lv (.int y :: .int x :: st) sg r sg' := by
  subst ht
  by_cases hq : y ≤ x
  · exact Go.step (fun f ls _ => by rw [run_ctl hi]; exact if_pos (decide_eq_true hq)) (kt hq)
  · exact Go.step (fun f ls _ => by rw [run_ctl hi]; exact if_neg (fun q => hq (of_decide_eq_true q))) (kf hq)
theorem G_ic_gt {x y : Int32} {t : Int} (t' : Nat) (hi : ins m pc = some (.if_icmp .gt t, np)) (ht : t.toNat = t') (kt : y < x → Go d scr m t' lv st sg r sg') (kf : ¬ y < x → Go d scr m np lv st sg r sg') : Go d scr m pc lv (.int y :: .int x :: st) sg r sg' := by
  subst ht
  by_cases hq : y < x
  · exact Go.step (fun f ls _ => by rw [run_ctl hi]; exact if_pos (decide_eq_true hq)) (kt hq)
  · exact Go.step (fun f ls _ => by rw [run_ctl hi]; exact if_neg (fun q => hq (of_decide_eq_true q))) (kf hq)
theorem G_ic_le {x y : Int32} {t : Int} (t' : Nat) (hi : ins m pc = some (.if_icmp .le t, np)) (ht : t.toNat = t') (kt : x ≤ y → Go d scr m t' lv st sg r sg') (kf : ¬ x ≤ y → Go d scr m np lv st sg r sg') : Go d scr m pc lv (.int y :: .int x :: st) sg r sg' := by
  subst ht
  by_cases hq : x ≤ y
  · exact Go.step (fun f ls _ => by rw [run_ctl hi]; exact if_pos (decide_eq_true hq)) (kt hq)
  · exact Go.step (fun f ls _ => by rw [run_ctl hi]; exact if_neg (fun q => hq (of_decide_eq_true q))) (kf hq)
theorem G_tsw {x : Int32} {df lo hi2 : Int} {os : Array Int} {t : Int} (t' : Nat) (hi : ins m pc = some (.tableswitch df lo hi2 os, np)) (h1 : ¬ (x.toInt < lo ∨ hi2 < x.toInt)) (ho : os.toList[(x.toInt - lo).toNat]? = some t) (ht : t.toNat = t') (k : Go d scr m t' lv st sg r sg') : Go d scr m pc lv (.int x :: st) sg r sg' := by
  subst ht
  exact Go.step (fun f ls _ => by rw [run_ctl hi]; dsimp only; rw [if_neg h1, ho]) k
theorem G_tswD {x : Int32} {df lo hi2 : Int} {os : Array Int} (t' : Nat) (hi : ins m pc = some (.tableswitch df lo hi2 os, np)) (h1 : x.toInt < lo ∨ hi2 < x.toInt) (ht : df.toNat = t') (k : Go d scr m t' lv st sg r sg') : Go d scr m pc lv (.int x :: st) sg r sg' := by
  subst ht
  exact Go.step (fun f ls _ => by rw [run_ctl hi]; dsimp only; rw [if_pos h1]) k
theorem G_lsw {x : Int32} {df : Int} {ps : Array (Int × Int)} (t' : Nat) (hi : ins m pc = some (.lookupswitch df ps, np)) (ht : (swl ps.toList df x.toInt).toNat = t') (k : Go d scr m t' lv st sg r sg') : Go d scr m pc lv (.int x :: st) sg r sg' := by
  subst ht
  exact Go.step (fun f ls _ => by rw [run_ctl hi]) k
theorem ti_ne {x : Int32} {n : Int} {c : Int32} (h : ¬ x = c) (hc : c.toInt = n) : ¬ x.toInt = n := fun q => h (Int32.toInt_inj.mp (q.trans hc.symm))
/-- a call -/
theorem Go.call {d m pc np q na : Nat} {st as rest : List Value} {r1 : Option Value} {sg1 : Hp} (h : ∀ f ls, run (f + 1) (d + 1) scr m pc ls st (HSx sg) = (match run f d none q 0 (lv_args 0 as) [] (HSx sg) with
            | some (r, h') => run f (d + 1) scr m np ls (r.toList ++ rest) h'
            | none => none)) (S : Sm d q as sg r1 sg1) (k : Go (d + 1) scr m np lv (r1.toList ++ rest) sg1 r sg') : Go (d + 1) scr m pc lv st sg r sg' := by
  obtain ⟨N1, h1⟩ := S
  obtain ⟨N2, h2⟩ := k
  refine ⟨N1 + N2 + 1, fun f hf ls hl => ?_⟩
  obtain ⟨g, rfl⟩ : ∃ g, f = g + 1 := ⟨f - 1, by omega⟩
  rw [h g ls, h1 g (by omega)]
  exact h2 g (by omega) ls hl
theorem rcv_of {q a : Nat} {As : List Value} (hc : clsOf a = mC.getD q 99) (h11 : Nat.blt (mC.getD q 99) 11 = true) : rcv q (.ref a :: As) (HSx sg) = true := by
  have h1 : mC.getD q 99 < 11 := Nat.le_of_ble_eq_true h11
  have hlt : a < nC := cls_lt (by omega)
  have hd : decide (a < (HSx sg).2.1) = true := decide_eq_true hlt
  have hh : (HSx sg).1 a = .inr (mC.getD q 99, flds sg a (mC.getD q 99)) := HP_obj hc h1
  simp only [rcv, hd, hh]
  simp
theorem G_callv {e a q : Nat} {st As rest : List Value} {r1 : Option Value} {sg1 : Hp} (na : Nat) (hi : ins m pc = some (.invokevirtual e, np)) (hq : e % 1000 = q) (hna : MP q + 1 = na) (hlt : Nat.blt q nMeth = true) (hlen : Nat.ble na st.length = true) (hst : (st.take na).reverse = .ref a :: As) (hrest : st.drop na = rest) (hs1 : Nat.ble (rest.map fun v => v.category).sum 8 = true) (hs2 : Nat.ble ((Value.ref a :: As).map fun v => v.category).sum (ML q) = true) (hc : clsOf a = mC.getD q 99) (h11 : Nat.blt (mC.getD q 99) 11 = true)
    (S : Sm d q (.ref a :: As) sg r1 sg1) (k : Go (d + 1) scr m np lv (r1.toList ++ rest) sg1 r sg') : Go (d + 1) scr m pc lv st sg r sg' := by
  subst hq
  subst hna
  subst hrest
  refine Go.call (na := 0) (fun f ls => ?_) S k
  rw [run_ctl hi]
  dsimp only
  rw [hst, if_pos ⟨Nat.le_of_ble_eq_true hlen, Nat.le_of_ble_eq_true hlt, Nat.le_of_ble_eq_true hs1, Nat.le_of_ble_eq_true hs2, fun _ => rcv_of hc h11⟩]
theorem G_calls {e q : Nat} {st As rest : List Value} {r1 : Option Value} {sg1 : Hp} (na : Nat) (hi : ins m pc = some (.invokestatic e, np)) (hq : e % 1000 = q) (hna : MP q = na) (hlt : Nat.blt q nMeth = true) (hlen : Nat.ble na st.length = true) (hst : (st.take na).reverse = As) (hrest : st.drop na = rest) (hs1 : Nat.ble (rest.map fun v => v.category).sum 8 = true) (hs2 : Nat.ble (As.map fun v => v.category).sum (ML q) = true)
    (S : Sm d q As sg r1 sg1) (k : Go (d + 1) scr m np lv (r1.toList ++ rest) sg1 r sg') : Go (d + 1) scr m pc lv st sg r sg' := by
  subst hq
  subst hna
  subst hrest
  subst hst
  refine Go.call (na := 0) (fun f ls => ?_) S k
  rw [run_ctl hi]
  dsimp only
  have h5 : nMeth < 500 := by decide
  have h6 : e % 1000 < nMeth := Nat.le_of_ble_eq_true hlt
  rw [if_pos (by omega), if_pos ⟨Nat.le_of_ble_eq_true hlen, h6, Nat.le_of_ble_eq_true hs1, Nat.le_of_ble_eq_true hs2, fun h => by cases h⟩]
theorem Go.own {e q : Nat} {st' : List Value} {sg1 : Hp} (hi : ins m pc = some (.invokestatic e, np)) (hq : e % 1000 = q) (h5 : Nat.ble 500 q = true) (ho : own5 q st (HSx sg) = some (st', HSx sg1)) (k : Go (d + 1) scr m np lv st' sg1 r sg') : Go (d + 1) scr m pc lv st sg r sg' := by
  subst hq
  have h6 : 500 ≤ e % 1000 := Nat.le_of_ble_eq_true h5
  obtain ⟨N, hN⟩ := k
  refine ⟨N + 1, fun f hf ls hl => ?_⟩
  obtain ⟨g, rfl⟩ : ∃ g, f = g + 1 := ⟨f - 1, by omega⟩
  rw [run_ctl hi]
  dsimp only
  rw [if_neg (by omega), if_neg (by omega), ho]
  exact hN g (by omega) ls hl
theorem G_min {x y : Int32} {e : Nat} (hi : ins m pc = some (.invokestatic e, np)) (hq : e % 1000 = 502) (hs : Nat.ble (st.map fun v => v.category).sum 8 = true) (k : Go (d + 1) scr m np lv (.int (if y < x then y else x) :: st) sg r sg') : Go (d + 1) scr m pc lv (.int y :: .int x :: st) sg r sg' :=
  Go.own hi hq rfl (by unfold own5; rw [if_neg (by decide), if_neg (by decide), if_pos rfl]; exact if_pos (Nat.le_of_ble_eq_true hs)) k
theorem G_max {x y : Int32} {e : Nat} (hi : ins m pc = some (.invokestatic e, np)) (hq : e % 1000 = 503) (hs : Nat.ble (st.map fun v => v.category).sum 8 = true) (k : Go (d + 1) scr m np lv (.int (if x < y then y else x) :: st) sg r sg') : Go (d + 1) scr m pc lv (.int y :: .int x :: st) sg r sg' :=
  Go.own hi hq rfl (by unfold own5; rw [if_neg (by decide), if_neg (by decide), if_neg (by decide), if_pos rfl]; exact if_pos (Nat.le_of_ble_eq_true hs)) k
theorem G_abs {x : Int32} {e : Nat} (hi : ins m pc = some (.invokestatic e, np)) (hq : e % 1000 = 504) (hs : Nat.ble (st.map fun v => v.category).sum 8 = true) (k : Go (d + 1) scr m np lv (.int (if 0 ≤ x then x else 0 - x) :: st) sg r sg') : Go (d + 1) scr m pc lv (.int x :: st) sg r sg' :=
  Go.own hi hq rfl (by unfold own5; rw [if_neg (by decide), if_neg (by decide), if_neg (by decide), if_neg (by decide), if_pos rfl]; exact if_pos (Nat.le_of_ble_eq_true hs)) k
def cpok (sp dp n : Int32) (n0 n1 : Nat) : Bool := decide (0 ≤ sp.toInt) && decide (0 ≤ dp.toInt) && decide (0 ≤ n.toInt) && decide (sp.toInt + n.toInt ≤ n0) && decide (dp.toInt + n.toInt ≤ n1)
theorem G_cpy {n dp sp : Int32} {a b e n0 n1 : Nat} (hi : ins m pc = some (.invokestatic e, np)) (hq : e % 1000 = 501) (hs : Nat.ble (st.map fun v => v.category).sum 8 = true) (ha : clsOf a = 20) (hb : clsOf b = 20) (hla : lenOf a = n0) (hlb : lenOf b = n1) (hc : cpok sp dp n n0 n1 = true) (k : Go (d + 1) scr m np lv st (cp2 sg a b sp dp n) r sg') : Go (d + 1) scr m pc lv (.int n :: .int dp :: .ref b :: .int sp :: .ref a :: st) sg r sg' := by
  subst hla
  subst hlb
  simp only [cpok, Bool.and_eq_true, decide_eq_true_eq] at hc
  obtain ⟨⟨⟨⟨c1, c2⟩, c3⟩, c4⟩, c5⟩ := hc
  refine Go.own hi hq rfl ?_ k
  have hd : decide (a < (HSx sg).2.1) = true := decide_eq_true (cls_lt (by omega))
  have hd2 : decide (b < (HSx sg).2.1) = true := decide_eq_true (cls_lt (by omega))
  have hh : (HSx sg).1 a = .inl (0, lenOf a, .inl (sg a)) := HP_arr ha
  have hh2 : (HSx sg).1 b = .inl (0, lenOf b, .inl (sg b)) := HP_arr hb
  unfold own5
  rw [if_neg (by decide), if_pos rfl]
  simp only [hd, hd2, hh, hh2]
  rw [if_pos ⟨c1, c2, c3, c4, c5, Nat.le_of_ble_eq_true hs⟩]
  show some (st, va_up (HP sg) b _, _) = _
  rw [HP_upA _ hb]
  rfl
end GS
end
section
def LF : Nat := 100000
theorem if_some {α : Type} {c : Prop} [Decidable c] {A : Option α} {y : α} (h : (if c then A else none) = some y) : c ∧ A = some y := by
  by_cases hc : c
  · rw [if_pos hc] at h; exact ⟨hc, h⟩
  · rw [if_neg hc] at h; cases h
theorem Go.weak' {d m pc : Nat} {scr : Option (Nat × (Nat → Int32))} {lv lv' : LSt} {st : List Value} {sg sg' : Hp} {r : Option Value} (k : Go d scr m pc lv' st sg r sg') (h : lvs lv' lv) : Go d scr m pc lv st sg r sg' := Go.weak h k
theorem retZ_b {m : Nat} {v : Int32} (hm : MR m = some .boolean) (h : v = 0 ∨ v = 1) : retZ m v = true := by
  unfold retZ
  rw [hm]
  rcases h with rfl | rfl <;> rfl
theorem swl_ne {a t d x : Int} {l : List (Int × Int)} (h : ¬ a = x) : swl ((a, t) :: l) d x = swl l d x := if_neg h
theorem rt_el21 {a j : Nat} (h : clsOf a = 21) (hj : j < lenOf a) : clsOf (rt a j) = 6 := rt_el h (Or.inl rfl) hj
theorem rt_el22 {a j : Nat} (h : clsOf a = 22) (hj : j < lenOf a) : clsOf (rt a j) = 4 := rt_el h (Or.inr rfl) hj
section GL
variable {d m pc np : Nat} {scr : Option (Nat × (Nat → Int32))} {lv : LSt} {st : List Value} {sg sg' : Hp} {r : Option Value}
theorem G_ialdL {a n : Nat} {j : Int32} (k' : Nat) (hi : ins m pc = some (.iaload, np)) (hc : clsOf a = 20) (hn : lenOf a = n) (hj : inb j n = true) (hk : j.toNatClampNeg = k') (k : Go d scr m np lv (.int (sg a k') :: st) sg r sg') : Go d scr m pc lv (.int j :: .ref a :: st) sg r sg' := by
  subst hk
  exact G_iald hi hc hn hj k
theorem G_iastL {a n : Nat} {j x : Int32} (k' : Nat) (hi : ins m pc = some (.iastore, np)) (hc : clsOf a = 20) (hn : lenOf a = n) (hj : inb j n = true) (hk : j.toNatClampNeg = k') (k : Go d scr m np lv st (w2 sg a k' x) r sg') : Go d scr m pc lv (.int x :: .int j :: .ref a :: st) sg r sg' := by
  subst hk
  exact G_iast hi hc hn hj k
theorem G_aaldL {a n t : Nat} {j : Int32} (b : Nat) (hi : ins m pc = some (.aaload, np)) (hc : clsOf a = t) (ht : t = 21 ∨ t = 22) (hn : lenOf a = n) (hj : inb j n = true) (hb : rt a j.toNatClampNeg = b) (k : Go d scr m np lv (.ref b :: st) sg r sg') : Go d scr m pc lv (.int j :: .ref a :: st) sg r sg' := by
  subst hb
  exact G_aald hi hc ht hn hj k
theorem G_callvI {e a q : Nat} {st As rest : List Value} {v : Int32} {sg1 : Hp} (na : Nat) (S : Sm d q (.ref a :: As) sg (some (.int v)) sg1) (hi : ins m pc = some (.invokevirtual e, np)) (hq : e % 1000 = q) (hna : MP q + 1 = na) (hlt : Nat.blt q nMeth = true) (hlen : Nat.ble na st.length = true) (hst : (st.take na).reverse = .ref a :: As) (hrest : st.drop na = rest) (hs1 : Nat.ble (rest.map fun v => v.category).sum 8 = true) (hs2 : Nat.ble ((Value.ref a :: As).map fun v => v.category).sum (ML q) = true) (hc : clsOf a = mC.getD q 99) (h11 : Nat.blt (mC.getD q 99) 11 = true) (k : Go (d + 1) scr m np lv (.int v :: rest) sg1 r sg') : Go (d + 1) scr m pc lv st sg r sg' :=
  G_callv na hi hq hna hlt hlen hst hrest hs1 hs2 hc h11 S k
theorem G_callsI {e q : Nat} {st As rest : List Value} {v : Int32} {sg1 : Hp} (na : Nat) (S : Sm d q As sg (some (.int v)) sg1) (hi : ins m pc = some (.invokestatic e, np)) (hq : e % 1000 = q) (hna : MP q = na) (hlt : Nat.blt q nMeth = true) (hlen : Nat.ble na st.length = true) (hst : (st.take na).reverse = As) (hrest : st.drop na = rest) (hs1 : Nat.ble (rest.map fun v => v.category).sum 8 = true) (hs2 : Nat.ble (As.map fun v => v.category).sum (ML q) = true) (k : Go (d + 1) scr m np lv (.int v :: rest) sg1 r sg') : Go (d + 1) scr m pc lv st sg r sg' :=
  G_calls na hi hq hna hlt hlen hst hrest hs1 hs2 S k
theorem G_callvJ {e a q : Nat} {st As rest : List Value} {v : Int64} {sg1 : Hp} (na : Nat) (S : Sm d q (.ref a :: As) sg (some (.long v)) sg1) (hi : ins m pc = some (.invokevirtual e, np)) (hq : e % 1000 = q) (hna : MP q + 1 = na) (hlt : Nat.blt q nMeth = true) (hlen : Nat.ble na st.length = true) (hst : (st.take na).reverse = .ref a :: As) (hrest : st.drop na = rest) (hs1 : Nat.ble (rest.map fun v => v.category).sum 8 = true) (hs2 : Nat.ble ((Value.ref a :: As).map fun v => v.category).sum (ML q) = true) (hc : clsOf a = mC.getD q 99) (h11 : Nat.blt (mC.getD q 99) 11 = true) (k : Go (d + 1) scr m np lv (.long v :: rest) sg1 r sg') : Go (d + 1) scr m pc lv st sg r sg' :=
  G_callv na hi hq hna hlt hlen hst hrest hs1 hs2 hc h11 S k
theorem G_callsJ {e q : Nat} {st As rest : List Value} {v : Int64} {sg1 : Hp} (na : Nat) (S : Sm d q As sg (some (.long v)) sg1) (hi : ins m pc = some (.invokestatic e, np)) (hq : e % 1000 = q) (hna : MP q = na) (hlt : Nat.blt q nMeth = true) (hlen : Nat.ble na st.length = true) (hst : (st.take na).reverse = As) (hrest : st.drop na = rest) (hs1 : Nat.ble (rest.map fun v => v.category).sum 8 = true) (hs2 : Nat.ble (As.map fun v => v.category).sum (ML q) = true) (k : Go (d + 1) scr m np lv (.long v :: rest) sg1 r sg') : Go (d + 1) scr m pc lv st sg r sg' :=
  G_calls na hi hq hna hlt hlen hst hrest hs1 hs2 S k
theorem G_callvV {e a q : Nat} {st As rest : List Value} {sg1 : Hp} (na : Nat) (S : Sm d q (.ref a :: As) sg none sg1) (hi : ins m pc = some (.invokevirtual e, np)) (hq : e % 1000 = q) (hna : MP q + 1 = na) (hlt : Nat.blt q nMeth = true) (hlen : Nat.ble na st.length = true) (hst : (st.take na).reverse = .ref a :: As) (hrest : st.drop na = rest) (hs1 : Nat.ble (rest.map fun v => v.category).sum 8 = true) (hs2 : Nat.ble ((Value.ref a :: As).map fun v => v.category).sum (ML q) = true) (hc : clsOf a = mC.getD q 99) (h11 : Nat.blt (mC.getD q 99) 11 = true) (k : Go (d + 1) scr m np lv (rest) sg1 r sg') : Go (d + 1) scr m pc lv st sg r sg' :=
  G_callv na hi hq hna hlt hlen hst hrest hs1 hs2 hc h11 S k
theorem G_callsV {e q : Nat} {st As rest : List Value} {sg1 : Hp} (na : Nat) (S : Sm d q As sg none sg1) (hi : ins m pc = some (.invokestatic e, np)) (hq : e % 1000 = q) (hna : MP q = na) (hlt : Nat.blt q nMeth = true) (hlen : Nat.ble na st.length = true) (hst : (st.take na).reverse = As) (hrest : st.drop na = rest) (hs1 : Nat.ble (rest.map fun v => v.category).sum 8 = true) (hs2 : Nat.ble (As.map fun v => v.category).sum (ML q) = true) (k : Go (d + 1) scr m np lv (rest) sg1 r sg') : Go (d + 1) scr m pc lv st sg r sg' :=
  G_calls na hi hq hna hlt hlen hst hrest hs1 hs2 S k
end GL
end
section
/-! BoxSpider.axisOf, method 11 -/
def f_Box_axisOf (sg : Hp) (x0 : Int32) : Option (Int32 × Hp) :=
  some (((x0 + (1 : Int32)) - (x0 + (1 : Int32)) / (3 : Int32) * (3 : Int32)), sg)
/-! BoxSpider$Spot.set, method 14 -/
def f_Spot_set (sg : Hp) (a0 : Nat) (a1 : Nat) (x2 : Int32) (x3 : Int32) (x4 : Int32) : Option (Hp) :=
  some (w2 (w2 (w2 (w2 (w2 (w2 sg (rt a0 0) 0 x4) (rt a0 0) 1 (((w2 sg (rt a0 0) 0 x4) a1 0) - x4)) (rt a0 0) 2 x2) (rt a0 0) 3 (((w2 (w2 (w2 sg (rt a0 0) 0 x4) (rt a0 0) 1 (((w2 sg (rt a0 0) 0 x4) a1 0) - x4)) (rt a0 0) 2 x2) a1 1) - x2)) (rt a0 0) 4 x3) (rt a0 0) 5 (((w2 (w2 (w2 (w2 (w2 sg (rt a0 0) 0 x4) (rt a0 0) 1 (((w2 sg (rt a0 0) 0 x4) a1 0) - x4)) (rt a0 0) 2 x2) (rt a0 0) 3 (((w2 (w2 (w2 sg (rt a0 0) 0 x4) (rt a0 0) 1 (((w2 sg (rt a0 0) 0 x4) a1 0) - x4)) (rt a0 0) 2 x2) a1 1) - x2)) (rt a0 0) 4 x3) a1 2) - x3))
/-! BoxSpider$Spot.isOnBox, method 15 -/
def f_Spot_isOnBox_36 (k4 : Hp → Nat → Int32 → Int32 → Option (Int32 × Hp)) (sg : Hp) (a0 : Nat) (x2 : Int32) (xs0 : Int32) (xs1 : Int32) : Option (Int32 × Hp) :=
  k4 sg a0 (xs0 ||| xs1) (x2 + (1 : Int32))
def f_Spot_isOnBox_4  : Nat → Hp → Nat → Int32 → Int32 → Option (Int32 × Hp)
  | 0, _, _, _, _ => none
  | n + 1, sg, a0, x1, x2 =>
    if (6 : Int32) ≤ x2 then
      if x1 = 0 ∨ x1 = 1 then some (x1, sg) else none
    else
      if inb x2 6 = true then
        if (0 : Int32) ≤ (sg (rt a0 0) (x2).toNatClampNeg) then
          if inb x2 6 = true then
            if (sg (rt a0 0) (x2).toNatClampNeg) = (0 : Int32) then
              f_Spot_isOnBox_36 (f_Spot_isOnBox_4 n) sg a0 x2 x1 (1 : Int32)
            else
              f_Spot_isOnBox_36 (f_Spot_isOnBox_4 n) sg a0 x2 x1 (0 : Int32)
          else none
        else
          some ((0 : Int32), sg)
      else none
def f_Spot_isOnBox (sg : Hp) (a0 : Nat) : Option (Int32 × Hp) :=
  f_Spot_isOnBox_4  LF sg a0 (0 : Int32) (0 : Int32)
/-! BoxSpider$Room.holds, method 13 -/
def f_Room_holds (sg : Hp) (x1 : Int32) (x2 : Int32) (x3 : Int32) : Option (Int32 × Hp) :=
  (f_Spot_set sg 7 2 x1 x2 x3).bind fun y1 =>
    (f_Spot_isOnBox y1 7).bind fun y2 =>
      if y2.1 = 0 ∨ y2.1 = 1 then some (y2.1, y2.2) else none
/-! BoxSpider$Room.move, method 16 -/
def f_Room_move (sg : Hp) (x1 : Int32) (x2 : Int32) (x3 : Int32) (x4 : Int32) : Option (Hp) :=
  if inb x1 8 = true then
    if inb x1 8 = true then
      if inb x1 8 = true then
        some (w2 (w2 (w2 (w2 sg 3 (x1).toNatClampNeg x2) 4 (x1).toNatClampNeg x3) 5 (x1).toNatClampNeg x4) 1 6 (((w2 (w2 (w2 sg 3 (x1).toNatClampNeg x2) 4 (x1).toNatClampNeg x3) 5 (x1).toNatClampNeg x4) 1 6) + (1 : Int32)))
      else none
    else none
  else none
/-! BoxSpider$Room.stretch, method 12 -/
def f_Room_stretch_61 (k17 : Hp → Int32 → Int32 → Option (Int32 × Hp)) (sg : Hp) (x3 : Int32) (x4 : Int32) : Option (Int32 × Hp) :=
  k17 sg x3 (x4 + (1 : Int32))
def f_Room_stretch_17  : Nat → Hp → Int32 → Int32 → Option (Int32 × Hp)
  | 0, _, _, _ => none
  | n + 1, sg, x3, x4 =>
    if (8 : Int32) ≤ x4 then
      some (x3, (w2 sg 1 6 ((sg 1 6) + (1 : Int32))))
    else
      if inb x4 8 = true then
        if inb x4 8 = true then
          if inb x4 8 = true then
            (f_Room_holds sg (sg 3 (x4).toNatClampNeg) (sg 4 (x4).toNatClampNeg) (sg 5 (x4).toNatClampNeg)).bind fun y6 =>
              if y6.1 = (0 : Int32) then
                (f_Room_move y6.2 x4 (0 : Int32) (0 : Int32) (0 : Int32)).bind fun y7 =>
                  f_Room_stretch_61 (f_Room_stretch_17 n) y7 x3 x4
              else
                f_Room_stretch_61 (f_Room_stretch_17 n) y6.2 x3 x4
          else none
        else none
      else none
def f_Room_stretch (sg : Hp) (x1 : Int32) (x2 : Int32) : Option (Int32 × Hp) :=
  if inb x1 3 = true then
    if inb x1 3 = true then
      f_Room_stretch_17  LF (w2 sg 2 (x1).toNatClampNeg x2) (sg 2 (x1).toNatClampNeg) (0 : Int32)
    else none
  else none
/-! BoxSpider.side, method 10 -/
def f_Box_side (sg : Hp) (x1 : Int32) (x2 : Int32) : Option (Int32 × Hp) :=
  if x1 < (0 : Int32) then
    some ((-2 : Int32), sg)
  else
    if (3 : Int32) ≤ x1 then
      some ((-2 : Int32), sg)
    else
      if x2 < (1 : Int32) then
        some ((-2 : Int32), sg)
      else
        if x2 ≤ (30 : Int32) then
          (f_Box_axisOf sg x1).bind fun y1 =>
            (f_Room_stretch y1.2 y1.1 x2).bind fun y2 =>
              some (y2.1, y2.2)
        else
          some ((-2 : Int32), sg)
/-! BoxSpiderModel.in, method 101 -/
def f_Mod_in (sg : Hp) (l0 : Int64) (l2 : Int64) (l4 : Int64) : Option (Int32 × Hp) :=
  if (lg_cmp l0 l2) < (0 : Int32) then
    some ((0 : Int32), sg)
  else
    if (0 : Int32) < (lg_cmp l0 l4) then
      some ((0 : Int32), sg)
    else
      some ((1 : Int32), sg)
/-! BoxSpiderModel.axisOf, method 113 -/
def f_Mod_axisOf (sg : Hp) (x0 : Int32) : Option (Int32 × Hp) :=
  if (2 : Int32) ≤ x0 then
    if (4 : Int32) ≤ x0 then
      some ((1 : Int32), sg)
    else
      some ((0 : Int32), sg)
  else
    some ((2 : Int32), sg)
/-! BoxSpiderModel.liesOn, method 112 -/
def f_Mod_liesOn_48  (sg : Hp) (xs0 : Int32) (xs1 : Int32) : Option (Int32 × Hp) :=
  if xs0 = xs1 then
    some ((1 : Int32), sg)
  else
    some ((0 : Int32), sg)
def f_Mod_liesOn_27  (sg : Hp) (x1 : Int32) (x5 : Int32) (xs0 : Int32) : Option (Int32 × Hp) :=
  if (x1 - x1 / (2 : Int32) * (2 : Int32)) = (0 : Int32) then
    f_Mod_liesOn_48  sg xs0 (0 : Int32)
  else
    if inb x5 3 = true then
      f_Mod_liesOn_48  sg xs0 (sg 51 (x5).toNatClampNeg)
    else none
def f_Mod_liesOn (sg : Hp) (x1 : Int32) (x2 : Int32) (x3 : Int32) (x4 : Int32) : Option (Int32 × Hp) :=
  (f_Mod_axisOf sg x1).bind fun y1 =>
    if y1.1 = (0 : Int32) then
      f_Mod_liesOn_27  y1.2 x1 y1.1 x2
    else
      if y1.1 = (1 : Int32) then
        f_Mod_liesOn_27  y1.2 x1 y1.1 x3
      else
        f_Mod_liesOn_27  y1.2 x1 y1.1 x4
/-! BoxSpiderModel.isOnBox, method 111 -/
def f_Mod_isOnBox_90 (k61 : Hp → Int32 → Int32 → Int32 → Int32 → Int32 → Int32 → Option (Int32 × Hp)) (sg : Hp) (x1 : Int32) (x2 : Int32) (x3 : Int32) (x4 : Int32) (x6 : Int32) (xs0 : Int32) : Option (Int32 × Hp) :=
  k61 sg x1 x2 x3 x4 xs0 (x6 + (1 : Int32))
def f_Mod_isOnBox_85 (k61 : Hp → Int32 → Int32 → Int32 → Int32 → Int32 → Int32 → Option (Int32 × Hp)) (sg : Hp) (x1 : Int32) (x2 : Int32) (x3 : Int32) (x4 : Int32) (x6 : Int32) : Option (Int32 × Hp) :=
  f_Mod_isOnBox_90 k61 sg x1 x2 x3 x4 x6 (1 : Int32)
def f_Mod_isOnBox_61  : Nat → Hp → Int32 → Int32 → Int32 → Int32 → Int32 → Int32 → Option (Int32 × Hp)
  | 0, _, _, _, _, _, _, _ => none
  | n + 1, sg, x1, x2, x3, x4, x5, x6 =>
    if (6 : Int32) ≤ x6 then
      if x4 = (0 : Int32) then
        some ((0 : Int32), sg)
      else
        if x5 = (0 : Int32) then
          some ((0 : Int32), sg)
        else
          some ((1 : Int32), sg)
    else
      if x5 = (0 : Int32) then
        (f_Mod_liesOn sg x6 x1 x2 x3).bind fun y2 =>
          if y2.1 = (0 : Int32) then
            f_Mod_isOnBox_90 (f_Mod_isOnBox_61 n) y2.2 x1 x2 x3 x4 x6 (0 : Int32)
          else
            f_Mod_isOnBox_85 (f_Mod_isOnBox_61 n) y2.2 x1 x2 x3 x4 x6
      else
        f_Mod_isOnBox_85 (f_Mod_isOnBox_61 n) sg x1 x2 x3 x4 x6
def f_Mod_isOnBox_53  (sg : Hp) (x1 : Int32) (x2 : Int32) (x3 : Int32) (xs0 : Int32) : Option (Int32 × Hp) :=
  f_Mod_isOnBox_61  LF sg x1 x2 x3 xs0 (0 : Int32) (0 : Int32)
def f_Mod_isOnBox_52  (sg : Hp) (x1 : Int32) (x2 : Int32) (x3 : Int32) : Option (Int32 × Hp) :=
  f_Mod_isOnBox_53  sg x1 x2 x3 (0 : Int32)
def f_Mod_isOnBox (sg : Hp) (x1 : Int32) (x2 : Int32) (x3 : Int32) : Option (Int32 × Hp) :=
  (f_Mod_in sg (x1).toInt64 (0 : Int64) ((sg 51 0)).toInt64).bind fun y1 =>
    if y1.1 = (0 : Int32) then
      f_Mod_isOnBox_52  y1.2 x1 x2 x3
    else
      (f_Mod_in y1.2 (x2).toInt64 (0 : Int64) ((y1.2 51 1)).toInt64).bind fun y3 =>
        if y3.1 = (0 : Int32) then
          f_Mod_isOnBox_52  y3.2 x1 x2 x3
        else
          (f_Mod_in y3.2 (x3).toInt64 (0 : Int64) ((y3.2 51 2)).toInt64).bind fun y4 =>
            if y4.1 = (0 : Int32) then
              f_Mod_isOnBox_52  y4.2 x1 x2 x3
            else
              f_Mod_isOnBox_53  y4.2 x1 x2 x3 (1 : Int32)
/-! BoxSpiderModel.isThere, method 110 -/
def f_Mod_isThere (sg : Hp) (x1 : Int32) : Option (Int32 × Hp) :=
  if inb ((3 : Int32) * x1) 24 = true then
    if inb (((3 : Int32) * x1) + (1 : Int32)) 24 = true then
      if inb (((3 : Int32) * x1) + (2 : Int32)) 24 = true then
        (f_Mod_isOnBox sg (sg 52 (((3 : Int32) * x1)).toNatClampNeg) (sg 52 ((((3 : Int32) * x1) + (1 : Int32))).toNatClampNeg) (sg 52 ((((3 : Int32) * x1) + (2 : Int32))).toNatClampNeg)).bind fun y4 =>
          if y4.1 = 0 ∨ y4.1 = 1 then some (y4.1, y4.2) else none
      else none
    else none
  else none
/-! BoxSpiderModel.puts, method 114 -/
def f_Mod_puts (sg : Hp) (x1 : Int32) (x2 : Int32) (x3 : Int32) (x4 : Int32) : Option (Hp) :=
  if inb ((3 : Int32) * x1) 24 = true then
    if inb (((3 : Int32) * x1) + (1 : Int32)) 24 = true then
      if inb (((3 : Int32) * x1) + (2 : Int32)) 24 = true then
        some (w2 (w2 (w2 sg 52 (((3 : Int32) * x1)).toNatClampNeg x2) 52 ((((3 : Int32) * x1) + (1 : Int32))).toNatClampNeg x3) 52 ((((3 : Int32) * x1) + (2 : Int32))).toNatClampNeg x4)
      else none
    else none
  else none
/-! BoxSpiderModel.side, method 109 -/
def f_Mod_side_69 (k44 : Hp → Int32 → Int32 → Option (Int32 × Hp)) (sg : Hp) (x3 : Int32) (x4 : Int32) : Option (Int32 × Hp) :=
  k44 sg x3 (x4 + (1 : Int32))
def f_Mod_side_44  : Nat → Hp → Int32 → Int32 → Option (Int32 × Hp)
  | 0, _, _, _ => none
  | n + 1, sg, x3, x4 =>
    if (8 : Int32) ≤ x4 then
      some (x3, sg)
    else
      (f_Mod_isThere sg x4).bind fun y5 =>
        if y5.1 = (0 : Int32) then
          (f_Mod_puts y5.2 x4 (0 : Int32) (0 : Int32) (0 : Int32)).bind fun y6 =>
            f_Mod_side_69 (f_Mod_side_44 n) y6 x3 x4
        else
          f_Mod_side_69 (f_Mod_side_44 n) y5.2 x3 x4
def f_Mod_side (sg : Hp) (x1 : Int32) (x2 : Int32) : Option (Int32 × Hp) :=
  (f_Mod_in sg (x1).toInt64 (0 : Int64) (2 : Int64)).bind fun y1 =>
    if y1.1 = (0 : Int32) then
      some ((-2 : Int32), y1.2)
    else
      (f_Mod_in y1.2 (x2).toInt64 (1 : Int64) (30 : Int64)).bind fun y2 =>
        if y2.1 = (0 : Int32) then
          some ((-2 : Int32), y2.2)
        else
          if inb x1 3 = true then
            if inb x1 3 = true then
              f_Mod_side_44  LF (w2 y2.2 51 (x1).toNatClampNeg x2) (y2.2 51 (x1).toNatClampNeg) (0 : Int32)
            else none
          else none
/-! BoxSpider.isPlace, method 18 -/
def f_Box_isPlace (sg : Hp) (x0 : Int32) : Option (Int32 × Hp) :=
  if x0 < (0 : Int32) then
    some ((0 : Int32), sg)
  else
    if (8 : Int32) ≤ x0 then
      some ((0 : Int32), sg)
    else
      some ((1 : Int32), sg)
/-! BoxSpider.place, method 17 -/
def f_Box_place (sg : Hp) (x1 : Int32) (x2 : Int32) (x3 : Int32) (x4 : Int32) : Option (Int32 × Hp) :=
  (f_Box_isPlace sg x1).bind fun y1 =>
    if y1.1 = (0 : Int32) then
      some ((-2 : Int32), y1.2)
    else
      (f_Room_holds y1.2 x2 x3 x4).bind fun y2 =>
        if y2.1 = (0 : Int32) then
          some ((-2 : Int32), y2.2)
        else
          (f_Room_move y2.2 x1 x2 x3 x4).bind fun y3 =>
            some ((1 : Int32), y3)
/-! BoxSpiderModel.isPlace, method 116 -/
def f_Mod_isPlace (sg : Hp) (x0 : Int32) : Option (Int32 × Hp) :=
  (f_Mod_in sg (x0).toInt64 (0 : Int64) (7 : Int64)).bind fun y1 =>
    if y1.1 = 0 ∨ y1.1 = 1 then some (y1.1, y1.2) else none
/-! BoxSpiderModel.place, method 115 -/
def f_Mod_place (sg : Hp) (x1 : Int32) (x2 : Int32) (x3 : Int32) (x4 : Int32) : Option (Int32 × Hp) :=
  (f_Mod_isPlace sg x1).bind fun y1 =>
    if y1.1 = (0 : Int32) then
      some ((-2 : Int32), y1.2)
    else
      (f_Mod_isOnBox y1.2 x2 x3 x4).bind fun y2 =>
        if y2.1 = (0 : Int32) then
          some ((-2 : Int32), y2.2)
        else
          (f_Mod_puts y2.2 x1 x2 x3 x4).bind fun y3 =>
            some ((1 : Int32), y3)
/-! BoxSpider$Room.spotOf, method 20 -/
def f_Room_spotOf (sg : Hp) (x1 : Int32) (a2 : Nat) : Option (Hp) :=
  if inb x1 8 = true then
    if inb x1 8 = true then
      if inb x1 8 = true then
        (f_Spot_set sg a2 2 (sg 3 (x1).toNatClampNeg) (sg 4 (x1).toNatClampNeg) (sg 5 (x1).toNatClampNeg)).bind fun y4 =>
          some y4
      else none
    else none
  else none
/-! BoxSpider$Spot.wallBits, method 21 -/
def f_Spot_wallBits_25 (k4 : Hp → Nat → Int32 → Int32 → Option (Int32 × Hp)) (sg : Hp) (a0 : Nat) (x1 : Int32) (x2 : Int32) : Option (Int32 × Hp) :=
  k4 sg a0 x1 (x2 + (1 : Int32))
def f_Spot_wallBits_4  : Nat → Hp → Nat → Int32 → Int32 → Option (Int32 × Hp)
  | 0, _, _, _, _ => none
  | n + 1, sg, a0, x1, x2 =>
    if (6 : Int32) ≤ x2 then
      some (x1, sg)
    else
      if inb x2 6 = true then
        if (sg (rt a0 0) (x2).toNatClampNeg) = (0 : Int32) then
          f_Spot_wallBits_25 (f_Spot_wallBits_4 n) sg a0 (x1 ||| ((1 : Int32) <<< (x2 &&& 31))) x2
        else
          f_Spot_wallBits_25 (f_Spot_wallBits_4 n) sg a0 x1 x2
      else none
def f_Spot_wallBits (sg : Hp) (a0 : Nat) : Option (Int32 × Hp) :=
  f_Spot_wallBits_4  LF sg a0 (0 : Int32) (0 : Int32)
/-! BoxSpider.at, method 19 -/
def f_Box_at (sg : Hp) (x1 : Int32) (x2 : Int32) : Option (Int32 × Hp) :=
  (f_Box_isPlace sg x1).bind fun y1 =>
    if y1.1 = (0 : Int32) then
      some ((-2 : Int32), y1.2)
    else
      if x2 < (0 : Int32) then
        some ((-2 : Int32), y1.2)
      else
        if x2 ≤ (3 : Int32) then
          if x2 = (0 : Int32) then
            if inb x1 8 = true then
              some ((y1.2 3 (x1).toNatClampNeg), y1.2)
            else none
          else
            if x2 = (1 : Int32) then
              if inb x1 8 = true then
                some ((y1.2 4 (x1).toNatClampNeg), y1.2)
              else none
            else
              if x2 = (2 : Int32) then
                if inb x1 8 = true then
                  some ((y1.2 5 (x1).toNatClampNeg), y1.2)
                else none
              else
                (f_Room_spotOf y1.2 x1 35).bind fun y6 =>
                  (f_Spot_wallBits y6 35).bind fun y7 =>
                    some (y7.1, y7.2)
        else
          some ((-2 : Int32), y1.2)
/-! BoxSpiderModel.isOn, method 120 -/
def f_Mod_isOn (sg : Hp) (x1 : Int32) (x2 : Int32) : Option (Int32 × Hp) :=
  if inb ((3 : Int32) * x2) 24 = true then
    if inb (((3 : Int32) * x2) + (1 : Int32)) 24 = true then
      if inb (((3 : Int32) * x2) + (2 : Int32)) 24 = true then
        (f_Mod_liesOn sg x1 (sg 52 (((3 : Int32) * x2)).toNatClampNeg) (sg 52 ((((3 : Int32) * x2) + (1 : Int32))).toNatClampNeg) (sg 52 ((((3 : Int32) * x2) + (2 : Int32))).toNatClampNeg)).bind fun y4 =>
          if y4.1 = 0 ∨ y4.1 = 1 then some (y4.1, y4.2) else none
      else none
    else none
  else none
/-! BoxSpiderModel.facesOf, method 119 -/
def f_Mod_facesOf_27 (k4 : Hp → Int32 → Int32 → Int32 → Option (Int32 × Hp)) (sg : Hp) (x1 : Int32) (x3 : Int32) (xs0 : Int32) (xs1 : Int32) : Option (Int32 × Hp) :=
  k4 sg x1 (xs0 ||| xs1) (x3 + (1 : Int32))
def f_Mod_facesOf_4  : Nat → Hp → Int32 → Int32 → Int32 → Option (Int32 × Hp)
  | 0, _, _, _, _ => none
  | n + 1, sg, x1, x2, x3 =>
    if (6 : Int32) ≤ x3 then
      some (x2, sg)
    else
      (f_Mod_isOn sg x3 x1).bind fun y1 =>
        if y1.1 = (0 : Int32) then
          f_Mod_facesOf_27 (f_Mod_facesOf_4 n) y1.2 x1 x3 x2 (0 : Int32)
        else
          f_Mod_facesOf_27 (f_Mod_facesOf_4 n) y1.2 x1 x3 x2 ((1 : Int32) <<< (x3 &&& 31))
def f_Mod_facesOf (sg : Hp) (x1 : Int32) : Option (Int32 × Hp) :=
  f_Mod_facesOf_4  LF sg x1 (0 : Int32) (0 : Int32)
/-! BoxSpiderModel.atOf, method 118 -/
def f_Mod_atOf (sg : Hp) (x1 : Int32) (x2 : Int32) : Option (Int32 × Hp) :=
  if (3 : Int32) ≤ x2 then
    (f_Mod_facesOf sg x1).bind fun y1 =>
      some (y1.1, y1.2)
  else
    if inb (((3 : Int32) * x1) + x2) 24 = true then
      some ((sg 52 ((((3 : Int32) * x1) + x2)).toNatClampNeg), sg)
    else none
/-! BoxSpiderModel.at, method 117 -/
def f_Mod_at (sg : Hp) (x1 : Int32) (x2 : Int32) : Option (Int32 × Hp) :=
  (f_Mod_isPlace sg x1).bind fun y1 =>
    if y1.1 = (0 : Int32) then
      some ((-2 : Int32), y1.2)
    else
      (f_Mod_in y1.2 (x2).toInt64 (0 : Int64) (3 : Int64)).bind fun y2 =>
        if y2.1 = (0 : Int32) then
          some ((-2 : Int32), y2.2)
        else
          (f_Mod_atOf y2.2 x1 x2).bind fun y3 =>
            some (y3.1, y3.2)
/-! BoxSpider.isSheet, method 23 -/
def f_Box_isSheet (sg : Hp) (x0 : Int32) : Option (Int32 × Hp) :=
  if x0 < (0 : Int32) then
    some ((0 : Int32), sg)
  else
    if (4 : Int32) ≤ x0 then
      some ((0 : Int32), sg)
    else
      some ((1 : Int32), sg)
/-! BoxSpider$Sheet.isLost, method 24 -/
def f_Sheet_isLost (sg : Hp) (a0 : Nat) : Option (Int32 × Hp) :=
  if (sg a0 1) = (-1 : Int32) then
    some ((1 : Int32), sg)
  else
    some ((0 : Int32), sg)
/-! BoxSpider.found, method 25 -/
def f_Box_found (sg : Hp) (x1 : Int32) : Option (Int32 × Hp) :=
  some (((-10 : Int32) - x1), (w2 sg 0 10 x1))
/-! BoxSpider.read, method 22 -/
def f_Box_read_45  : Nat → Hp → Nat → Int32 → Int32 → Option (Int32 × Hp)
  | 0, _, _, _, _ => none
  | n + 1, sg, a2, x3, x4 =>
    if x3 ≤ x4 then
      some (x3, sg)
    else
      if inb ((3 : Int32) * x4) 60 = true then
        if inb (((3 : Int32) * x4) + (1 : Int32)) 60 = true then
          if inb (((3 : Int32) * x4) + (2 : Int32)) 60 = true then
            (f_Room_holds sg (sg (rt a2 0) (((3 : Int32) * x4)).toNatClampNeg) (sg (rt a2 0) ((((3 : Int32) * x4) + (1 : Int32))).toNatClampNeg) (sg (rt a2 0) ((((3 : Int32) * x4) + (2 : Int32))).toNatClampNeg)).bind fun y7 =>
              if y7.1 = (0 : Int32) then
                some (x4, y7.2)
              else
                (f_Room_move y7.2 x4 (sg (rt a2 0) (((3 : Int32) * x4)).toNatClampNeg) (sg (rt a2 0) ((((3 : Int32) * x4) + (1 : Int32))).toNatClampNeg) (sg (rt a2 0) ((((3 : Int32) * x4) + (2 : Int32))).toNatClampNeg)).bind fun y8 =>
                  f_Box_read_45 n y8 a2 x3 (x4 + (1 : Int32))
          else none
        else none
      else none
def f_Box_read (sg : Hp) (x1 : Int32) : Option (Int32 × Hp) :=
  (f_Box_isSheet sg x1).bind fun y1 =>
    if y1.1 = (0 : Int32) then
      some ((-2 : Int32), y1.2)
    else
      if inb x1 4 = true then
        (f_Sheet_isLost y1.2 (rt 32 (x1).toNatClampNeg)).bind fun y3 =>
          if y3.1 = (0 : Int32) then
            f_Box_read_45  LF y3.2 (rt 32 (x1).toNatClampNeg) (if (8 : Int32) < ((y3.2 (rt 32 (x1).toNatClampNeg) 2) / (3 : Int32)) then (8 : Int32) else ((y3.2 (rt 32 (x1).toNatClampNeg) 2) / (3 : Int32))) (0 : Int32)
          else
            (f_Box_found y3.2 (1 : Int32)).bind fun y9 =>
              some (y9.1, y9.2)
      else none
/-! BoxSpiderModel.isSheet, method 100 -/
def f_Mod_isSheet (sg : Hp) (x0 : Int32) : Option (Int32 × Hp) :=
  (f_Mod_in sg (x0).toInt64 (0 : Int64) (3 : Int64)).bind fun y1 =>
    if y1.1 = 0 ∨ y1.1 = 1 then some (y1.1, y1.2) else none
/-! BoxSpiderModel.met, method 102 -/
def f_Mod_met (sg : Hp) (x1 : Int32) : Option (Int32 × Hp) :=
  some (((-10 : Int32) - x1), (w2 sg 46 4 x1))
/-! BoxSpiderModel.read, method 121 -/
def f_Mod_read_113 (k29 : Hp → Int32 → Int32 → Int32 → Option (Int32 × Hp)) (sg : Hp) (x1 : Int32) (x3 : Int32) (xs0 : Int32) (xs1 : Int32) : Option (Int32 × Hp) :=
  k29 sg x1 (xs0 + xs1) x3
def f_Mod_read_102 (k29 : Hp → Int32 → Int32 → Int32 → Option (Int32 × Hp)) (sg : Hp) (x1 : Int32) (x2 : Int32) (xs0 : Int32) : Option (Int32 × Hp) :=
  if xs0 = (0 : Int32) then
    f_Mod_read_113 k29 sg x1 xs0 x2 (0 : Int32)
  else
    f_Mod_read_113 k29 sg x1 xs0 x2 (1 : Int32)
def f_Mod_read_29  : Nat → Hp → Int32 → Int32 → Int32 → Option (Int32 × Hp)
  | 0, _, _, _, _ => none
  | n + 1, sg, x1, x2, x3 =>
    if x3 = (0 : Int32) then
      some (x2, sg)
    else
      if (8 : Int32) ≤ x2 then
        some (x2, sg)
      else
        if inb x1 4 = true then
          if (sg 48 (x1).toNatClampNeg) < (((3 : Int32) * x2) + (3 : Int32)) then
            some (x2, sg)
          else
            if inb (((60 : Int32) * x1) + ((3 : Int32) * x2)) 240 = true then
              if inb ((((60 : Int32) * x1) + ((3 : Int32) * x2)) + (1 : Int32)) 240 = true then
                if inb ((((60 : Int32) * x1) + ((3 : Int32) * x2)) + (2 : Int32)) 240 = true then
                  (f_Mod_place sg x2 (sg 49 ((((60 : Int32) * x1) + ((3 : Int32) * x2))).toNatClampNeg) (sg 49 (((((60 : Int32) * x1) + ((3 : Int32) * x2)) + (1 : Int32))).toNatClampNeg) (sg 49 (((((60 : Int32) * x1) + ((3 : Int32) * x2)) + (2 : Int32))).toNatClampNeg)).bind fun y7 =>
                    if y7.1 = (1 : Int32) then
                      f_Mod_read_102 (f_Mod_read_29 n) y7.2 x1 x2 (1 : Int32)
                    else
                      f_Mod_read_102 (f_Mod_read_29 n) y7.2 x1 x2 (0 : Int32)
                else none
              else none
            else none
        else none
def f_Mod_read (sg : Hp) (x1 : Int32) : Option (Int32 × Hp) :=
  (f_Mod_isSheet sg x1).bind fun y1 =>
    if y1.1 = (0 : Int32) then
      some ((-2 : Int32), y1.2)
    else
      if inb x1 4 = true then
        if (0 : Int32) ≤ (y1.2 47 (x1).toNatClampNeg) then
          f_Mod_read_29  LF y1.2 x1 (0 : Int32) (1 : Int32)
        else
          (f_Mod_met y1.2 (1 : Int32)).bind fun y8 =>
            some (y8.1, y8.2)
      else none
/-! BoxSpider$Rolls.append, method 27 -/
def f_Rolls_append (sg : Hp) (x1 : Int32) : Option (Hp) :=
  if (40 : Int32) ≤ (sg 9 1) then
    some sg
  else
    if inb (sg 9 1) 40 = true then
      some (w2 (w2 sg 10 ((sg 9 1)).toNatClampNeg x1) 9 1 (((w2 sg 10 ((sg 9 1)).toNatClampNeg x1) 9 1) + (1 : Int32)))
    else none
/-! BoxSpider.type, method 26 -/
def f_Box_type (sg : Hp) (x1 : Int32) : Option (Int32 × Hp) :=
  if x1 < (0 : Int32) then
    some ((-2 : Int32), sg)
  else
    if x1 ≤ (255 : Int32) then
      if (sg 9 1) < (40 : Int32) then
        (f_Rolls_append sg x1).bind fun y1 =>
          some ((y1 9 1), y1)
      else
        some ((-4 : Int32), sg)
    else
      some ((-2 : Int32), sg)
/-! BoxSpiderModel.type, method 125 -/
def f_Mod_type (sg : Hp) (x1 : Int32) : Option (Int32 × Hp) :=
  (f_Mod_in sg (x1).toInt64 (0 : Int64) (255 : Int64)).bind fun y1 =>
    if y1.1 = (0 : Int32) then
      some ((-2 : Int32), y1.2)
    else
      if (y1.2 46 9) = (40 : Int32) then
        some ((-4 : Int32), y1.2)
      else
        if inb (y1.2 46 9) 40 = true then
          some (((w2 (w2 y1.2 54 ((y1.2 46 9)).toNatClampNeg x1) 46 9 (((w2 y1.2 54 ((y1.2 46 9)).toNatClampNeg x1) 46 9) + (1 : Int32))) 46 9), (w2 (w2 y1.2 54 ((y1.2 46 9)).toNatClampNeg x1) 46 9 (((w2 y1.2 54 ((y1.2 46 9)).toNatClampNeg x1) 46 9) + (1 : Int32))))
        else none
/-! BoxSpider.undo, method 28 -/
def f_Box_undo (sg : Hp)  : Option (Int32 × Hp) :=
  if (sg 9 1) = (0 : Int32) then
    some ((-3 : Int32), sg)
  else
    some (((w2 sg 9 1 ((sg 9 1) - (1 : Int32))) 9 1), (w2 sg 9 1 ((sg 9 1) - (1 : Int32))))
/-! BoxSpiderModel.undo, method 126 -/
def f_Mod_undo (sg : Hp)  : Option (Int32 × Hp) :=
  if (sg 46 9) = (0 : Int32) then
    some ((-3 : Int32), sg)
  else
    some (((w2 sg 46 9 ((sg 46 9) - (1 : Int32))) 46 9), (w2 sg 46 9 ((sg 46 9) - (1 : Int32))))
/-! BoxSpider.wipe, method 29 -/
def f_Box_wipe (sg : Hp)  : Option (Int32 × Hp) :=
  some ((sg 9 1), (w2 sg 9 1 (0 : Int32)))
/-! BoxSpiderModel.wipe, method 127 -/
def f_Mod_wipe (sg : Hp)  : Option (Int32 × Hp) :=
  some ((sg 46 9), (w2 sg 46 9 (0 : Int32)))
/-! BoxSpider$Rolls.rollOf, method 32 -/
def f_Rolls_rollOf (sg : Hp) (x0 : Int32) : Option (Int32 × Hp) :=
  if x0 = (101 : Int32) then
    some ((1 : Int32), sg)
  else
    if x0 = (110 : Int32) then
      some ((3 : Int32), sg)
    else
      if x0 = (115 : Int32) then
        some ((4 : Int32), sg)
      else
        if x0 = (119 : Int32) then
          some ((2 : Int32), sg)
        else
          some ((0 : Int32), sg)
/-! BoxSpider$Rolls.firstWrong, method 31 -/
def f_Rolls_firstWrong_2  : Nat → Hp → Int32 → Option (Int32 × Hp)
  | 0, _, _ => none
  | n + 1, sg, x1 =>
    if (sg 9 1) ≤ x1 then
      some ((-1 : Int32), sg)
    else
      if (20 : Int32) ≤ x1 then
        some (x1, sg)
      else
        if inb x1 40 = true then
          (f_Rolls_rollOf sg (sg 10 (x1).toNatClampNeg)).bind fun y2 =>
            if y2.1 = (0 : Int32) then
              some (x1, y2.2)
            else
              f_Rolls_firstWrong_2 n y2.2 (x1 + (1 : Int32))
        else none
def f_Rolls_firstWrong (sg : Hp)  : Option (Int32 × Hp) :=
  f_Rolls_firstWrong_2  LF sg (0 : Int32)
/-! BoxSpider.fault, method 30 -/
def f_Box_fault (sg : Hp)  : Option (Int32 × Hp) :=
  (f_Rolls_firstWrong sg ).bind fun y1 =>
    some (y1.1, y1.2)
/-! BoxSpiderModel.rollOf, method 129 -/
def f_Mod_rollOf (sg : Hp) (x0 : Int32) : Option (Int32 × Hp) :=
  if x0 = (101 : Int32) then
    some ((0 : Int32), sg)
  else
    if x0 = (119 : Int32) then
      some ((1 : Int32), sg)
    else
      if x0 = (110 : Int32) then
        some ((2 : Int32), sg)
      else
        if x0 = (115 : Int32) then
          some ((3 : Int32), sg)
        else
          some ((-1 : Int32), sg)
/-! BoxSpiderModel.fault, method 128 -/
def f_Mod_fault_2  : Nat → Hp → Int32 → Option (Int32 × Hp)
  | 0, _, _ => none
  | n + 1, sg, x1 =>
    if (sg 46 9) ≤ x1 then
      some ((-1 : Int32), sg)
    else
      if x1 = (20 : Int32) then
        some (x1, sg)
      else
        if inb x1 40 = true then
          (f_Mod_rollOf sg (sg 54 (x1).toNatClampNeg)).bind fun y2 =>
            if y2.1 = (-1 : Int32) then
              some (x1, y2.2)
            else
              f_Mod_fault_2 n y2.2 (x1 + (1 : Int32))
        else none
def f_Mod_fault (sg : Hp)  : Option (Int32 × Hp) :=
  f_Mod_fault_2  LF sg (0 : Int32)
/-! BoxSpider.isWall, method 34 -/
def f_Box_isWall (sg : Hp) (x0 : Int32) : Option (Int32 × Hp) :=
  if x0 < (0 : Int32) then
    some ((0 : Int32), sg)
  else
    if (6 : Int32) ≤ x0 then
      some ((0 : Int32), sg)
    else
      some ((1 : Int32), sg)
/-! BoxSpider$Room.isBarred, method 35 -/
def f_Room_isBarred (sg : Hp) (x1 : Int32) (x2 : Int32) : Option (Int32 × Hp) :=
  if inb x1 6 = true then
    if (((sg 6 (x1).toNatClampNeg) >>> (x2 &&& 31)) &&& (1 : Int32)) = (1 : Int32) then
      some ((1 : Int32), sg)
    else
      some ((0 : Int32), sg)
  else none
/-! BoxSpider$Room.setBar, method 36 -/
def f_Room_setBar_59  (sg : Hp)  : Option (Hp) :=
  some (w2 sg 1 6 ((sg 1 6) + (1 : Int32)))
def f_Room_setBar (sg : Hp) (x1 : Int32) (x2 : Int32) (x3 : Int32) : Option (Hp) :=
  if x3 = (0 : Int32) then
    if inb x1 6 = true then
      if inb x1 6 = true then
        if inb x2 6 = true then
          if inb x2 6 = true then
            f_Room_setBar_59  (w2 (w2 sg 6 (x1).toNatClampNeg ((sg 6 (x1).toNatClampNeg) &&& (((1 : Int32) <<< (x2 &&& 31)) ^^^ (-1 : Int32)))) 6 (x2).toNatClampNeg (((w2 sg 6 (x1).toNatClampNeg ((sg 6 (x1).toNatClampNeg) &&& (((1 : Int32) <<< (x2 &&& 31)) ^^^ (-1 : Int32)))) 6 (x2).toNatClampNeg) &&& (((1 : Int32) <<< (x1 &&& 31)) ^^^ (-1 : Int32)))) 
          else none
        else none
      else none
    else none
  else
    if inb x1 6 = true then
      if inb x1 6 = true then
        if inb x2 6 = true then
          if inb x2 6 = true then
            f_Room_setBar_59  (w2 (w2 sg 6 (x1).toNatClampNeg ((sg 6 (x1).toNatClampNeg) ||| ((1 : Int32) <<< (x2 &&& 31)))) 6 (x2).toNatClampNeg (((w2 sg 6 (x1).toNatClampNeg ((sg 6 (x1).toNatClampNeg) ||| ((1 : Int32) <<< (x2 &&& 31)))) 6 (x2).toNatClampNeg) ||| ((1 : Int32) <<< (x1 &&& 31)))) 
          else none
        else none
      else none
    else none
/-! BoxSpider.bar, method 33 -/
def f_Box_bar_70  (sg : Hp) (x4 : Int32) (xs1 : Int32) (xs2 : Int32) (xs3 : Int32) : Option (Int32 × Hp) :=
  (f_Room_setBar sg xs1 xs2 xs3).bind fun y4 =>
    some (x4, y4)
def f_Box_bar_52  (sg : Hp) (x1 : Int32) (x2 : Int32) (x3 : Int32) (xs0 : Int32) : Option (Int32 × Hp) :=
  if x3 = (1 : Int32) then
    f_Box_bar_70  sg xs0 x1 x2 (1 : Int32)
  else
    f_Box_bar_70  sg xs0 x1 x2 (0 : Int32)
def f_Box_bar (sg : Hp) (x1 : Int32) (x2 : Int32) (x3 : Int32) : Option (Int32 × Hp) :=
  (f_Box_isWall sg x1).bind fun y1 =>
    if y1.1 = (0 : Int32) then
      some ((-2 : Int32), y1.2)
    else
      (f_Box_isWall y1.2 x2).bind fun y2 =>
        if y2.1 = (0 : Int32) then
          some ((-2 : Int32), y2.2)
        else
          if (x1 >>> ((1 : Int32) &&& 31)) = (x2 >>> ((1 : Int32) &&& 31)) then
            some ((-2 : Int32), y2.2)
          else
            if x3 < (0 : Int32) then
              some ((-2 : Int32), y2.2)
            else
              if x3 ≤ (1 : Int32) then
                (f_Room_isBarred y2.2 x1 x2).bind fun y3 =>
                  if y3.1 = (0 : Int32) then
                    f_Box_bar_52  y3.2 x1 x2 x3 (0 : Int32)
                  else
                    f_Box_bar_52  y3.2 x1 x2 x3 (1 : Int32)
              else
                some ((-2 : Int32), y2.2)
/-! BoxSpiderModel.isFace, method 123 -/
def f_Mod_isFace (sg : Hp) (x0 : Int32) : Option (Int32 × Hp) :=
  (f_Mod_in sg (x0).toInt64 (0 : Int64) (5 : Int64)).bind fun y1 =>
    if y1.1 = 0 ∨ y1.1 = 1 then some (y1.1, y1.2) else none
/-! BoxSpiderModel.isTwo, method 124 -/
def f_Mod_isTwo (sg : Hp) (x0 : Int32) : Option (Int32 × Hp) :=
  (f_Mod_in sg (x0).toInt64 (0 : Int64) (1 : Int64)).bind fun y1 =>
    if y1.1 = 0 ∨ y1.1 = 1 then some (y1.1, y1.2) else none
/-! BoxSpiderModel.bar, method 122 -/
def f_Mod_bar (sg : Hp) (x1 : Int32) (x2 : Int32) (x3 : Int32) : Option (Int32 × Hp) :=
  (f_Mod_isFace sg x1).bind fun y1 =>
    if y1.1 = (0 : Int32) then
      some ((-2 : Int32), y1.2)
    else
      (f_Mod_isFace y1.2 x2).bind fun y2 =>
        if y2.1 = (0 : Int32) then
          some ((-2 : Int32), y2.2)
        else
          if (x1 / (2 : Int32)) = (x2 / (2 : Int32)) then
            some ((-2 : Int32), y2.2)
          else
            (f_Mod_isTwo y2.2 x3).bind fun y3 =>
              if y3.1 = (0 : Int32) then
                some ((-2 : Int32), y3.2)
              else
                if inb x1 6 = true then
                  if inb x1 6 = true then
                    if inb x1 6 = true then
                      if inb x2 6 = true then
                        if inb x2 6 = true then
                          some ((((y3.2 53 (x1).toNatClampNeg) >>> (x2 &&& 31)) &&& (1 : Int32)), (w2 (w2 y3.2 53 (x1).toNatClampNeg (((y3.2 53 (x1).toNatClampNeg) &&& (((1 : Int32) <<< (x2 &&& 31)) ^^^ (-1 : Int32))) ||| (x3 <<< (x2 &&& 31)))) 53 (x2).toNatClampNeg ((((w2 y3.2 53 (x1).toNatClampNeg (((y3.2 53 (x1).toNatClampNeg) &&& (((1 : Int32) <<< (x2 &&& 31)) ^^^ (-1 : Int32))) ||| (x3 <<< (x2 &&& 31)))) 53 (x2).toNatClampNeg) &&& (((1 : Int32) <<< (x1 &&& 31)) ^^^ (-1 : Int32))) ||| (x3 <<< (x1 &&& 31)))))
                        else none
                      else none
                    else none
                  else none
                else none
/-! BoxSpider$Rolls.valid, method 38 -/
def f_Rolls_valid (sg : Hp)  : Option (Int32 × Hp) :=
  (f_Rolls_firstWrong sg ).bind fun y1 =>
    if y1.1 = (-1 : Int32) then
      some ((y1.2 9 1), y1.2)
    else
      some ((0 : Int32), y1.2)
/-! BoxSpider$Stand.start, method 40 -/
def f_Stand_start_33  (sg : Hp) (a0 : Nat) (a2 : Nat) (as0 : Nat) (xs1 : Int32) : Option (Hp) :=
  if inb (((w2 (w2 (w2 sg as0 2 xs1) a0 3 (0 : Int32)) a0 4 (0 : Int32)) a0 1) >>> ((1 : Int32) &&& 31)) 3 = true then
    if inb (((w2 (w2 (w2 (w2 sg as0 2 xs1) a0 3 (0 : Int32)) a0 4 (0 : Int32)) a0 5 ((w2 (w2 (w2 sg as0 2 xs1) a0 3 (0 : Int32)) a0 4 (0 : Int32)) a2 ((((w2 (w2 (w2 sg as0 2 xs1) a0 3 (0 : Int32)) a0 4 (0 : Int32)) a0 1) >>> ((1 : Int32) &&& 31))).toNatClampNeg)) a0 2) >>> ((1 : Int32) &&& 31)) 3 = true then
      if inb (((w2 (w2 (w2 (w2 (w2 sg as0 2 xs1) a0 3 (0 : Int32)) a0 4 (0 : Int32)) a0 5 ((w2 (w2 (w2 sg as0 2 xs1) a0 3 (0 : Int32)) a0 4 (0 : Int32)) a2 ((((w2 (w2 (w2 sg as0 2 xs1) a0 3 (0 : Int32)) a0 4 (0 : Int32)) a0 1) >>> ((1 : Int32) &&& 31))).toNatClampNeg)) a0 6 ((w2 (w2 (w2 (w2 sg as0 2 xs1) a0 3 (0 : Int32)) a0 4 (0 : Int32)) a0 5 ((w2 (w2 (w2 sg as0 2 xs1) a0 3 (0 : Int32)) a0 4 (0 : Int32)) a2 ((((w2 (w2 (w2 sg as0 2 xs1) a0 3 (0 : Int32)) a0 4 (0 : Int32)) a0 1) >>> ((1 : Int32) &&& 31))).toNatClampNeg)) a2 ((((w2 (w2 (w2 (w2 sg as0 2 xs1) a0 3 (0 : Int32)) a0 4 (0 : Int32)) a0 5 ((w2 (w2 (w2 sg as0 2 xs1) a0 3 (0 : Int32)) a0 4 (0 : Int32)) a2 ((((w2 (w2 (w2 sg as0 2 xs1) a0 3 (0 : Int32)) a0 4 (0 : Int32)) a0 1) >>> ((1 : Int32) &&& 31))).toNatClampNeg)) a0 2) >>> ((1 : Int32) &&& 31))).toNatClampNeg)) a0 0) >>> ((1 : Int32) &&& 31)) 3 = true then
        some (w2 (w2 (w2 (w2 (w2 (w2 sg as0 2 xs1) a0 3 (0 : Int32)) a0 4 (0 : Int32)) a0 5 ((w2 (w2 (w2 sg as0 2 xs1) a0 3 (0 : Int32)) a0 4 (0 : Int32)) a2 ((((w2 (w2 (w2 sg as0 2 xs1) a0 3 (0 : Int32)) a0 4 (0 : Int32)) a0 1) >>> ((1 : Int32) &&& 31))).toNatClampNeg)) a0 6 ((w2 (w2 (w2 (w2 sg as0 2 xs1) a0 3 (0 : Int32)) a0 4 (0 : Int32)) a0 5 ((w2 (w2 (w2 sg as0 2 xs1) a0 3 (0 : Int32)) a0 4 (0 : Int32)) a2 ((((w2 (w2 (w2 sg as0 2 xs1) a0 3 (0 : Int32)) a0 4 (0 : Int32)) a0 1) >>> ((1 : Int32) &&& 31))).toNatClampNeg)) a2 ((((w2 (w2 (w2 (w2 sg as0 2 xs1) a0 3 (0 : Int32)) a0 4 (0 : Int32)) a0 5 ((w2 (w2 (w2 sg as0 2 xs1) a0 3 (0 : Int32)) a0 4 (0 : Int32)) a2 ((((w2 (w2 (w2 sg as0 2 xs1) a0 3 (0 : Int32)) a0 4 (0 : Int32)) a0 1) >>> ((1 : Int32) &&& 31))).toNatClampNeg)) a0 2) >>> ((1 : Int32) &&& 31))).toNatClampNeg)) a0 7 ((w2 (w2 (w2 (w2 (w2 sg as0 2 xs1) a0 3 (0 : Int32)) a0 4 (0 : Int32)) a0 5 ((w2 (w2 (w2 sg as0 2 xs1) a0 3 (0 : Int32)) a0 4 (0 : Int32)) a2 ((((w2 (w2 (w2 sg as0 2 xs1) a0 3 (0 : Int32)) a0 4 (0 : Int32)) a0 1) >>> ((1 : Int32) &&& 31))).toNatClampNeg)) a0 6 ((w2 (w2 (w2 (w2 sg as0 2 xs1) a0 3 (0 : Int32)) a0 4 (0 : Int32)) a0 5 ((w2 (w2 (w2 sg as0 2 xs1) a0 3 (0 : Int32)) a0 4 (0 : Int32)) a2 ((((w2 (w2 (w2 sg as0 2 xs1) a0 3 (0 : Int32)) a0 4 (0 : Int32)) a0 1) >>> ((1 : Int32) &&& 31))).toNatClampNeg)) a2 ((((w2 (w2 (w2 (w2 sg as0 2 xs1) a0 3 (0 : Int32)) a0 4 (0 : Int32)) a0 5 ((w2 (w2 (w2 sg as0 2 xs1) a0 3 (0 : Int32)) a0 4 (0 : Int32)) a2 ((((w2 (w2 (w2 sg as0 2 xs1) a0 3 (0 : Int32)) a0 4 (0 : Int32)) a0 1) >>> ((1 : Int32) &&& 31))).toNatClampNeg)) a0 2) >>> ((1 : Int32) &&& 31))).toNatClampNeg)) a2 ((((w2 (w2 (w2 (w2 (w2 sg as0 2 xs1) a0 3 (0 : Int32)) a0 4 (0 : Int32)) a0 5 ((w2 (w2 (w2 sg as0 2 xs1) a0 3 (0 : Int32)) a0 4 (0 : Int32)) a2 ((((w2 (w2 (w2 sg as0 2 xs1) a0 3 (0 : Int32)) a0 4 (0 : Int32)) a0 1) >>> ((1 : Int32) &&& 31))).toNatClampNeg)) a0 6 ((w2 (w2 (w2 (w2 sg as0 2 xs1) a0 3 (0 : Int32)) a0 4 (0 : Int32)) a0 5 ((w2 (w2 (w2 sg as0 2 xs1) a0 3 (0 : Int32)) a0 4 (0 : Int32)) a2 ((((w2 (w2 (w2 sg as0 2 xs1) a0 3 (0 : Int32)) a0 4 (0 : Int32)) a0 1) >>> ((1 : Int32) &&& 31))).toNatClampNeg)) a2 ((((w2 (w2 (w2 (w2 sg as0 2 xs1) a0 3 (0 : Int32)) a0 4 (0 : Int32)) a0 5 ((w2 (w2 (w2 sg as0 2 xs1) a0 3 (0 : Int32)) a0 4 (0 : Int32)) a2 ((((w2 (w2 (w2 sg as0 2 xs1) a0 3 (0 : Int32)) a0 4 (0 : Int32)) a0 1) >>> ((1 : Int32) &&& 31))).toNatClampNeg)) a0 2) >>> ((1 : Int32) &&& 31))).toNatClampNeg)) a0 0) >>> ((1 : Int32) &&& 31))).toNatClampNeg))
      else none
    else none
  else none
def f_Stand_start_18  (sg : Hp) (a0 : Nat) (x1 : Int32) (a2 : Nat) (as0 : Nat) (xs1 : Int32) : Option (Hp) :=
  if (x1 >>> ((1 : Int32) &&& 31)) = (0 : Int32) then
    f_Stand_start_33  (w2 sg as0 1 xs1) a0 a2 a0 (5 : Int32)
  else
    f_Stand_start_33  (w2 sg as0 1 xs1) a0 a2 a0 (1 : Int32)
def f_Stand_start (sg : Hp) (a0 : Nat) (x1 : Int32) (a2 : Nat) : Option (Hp) :=
  if (x1 >>> ((1 : Int32) &&& 31)) = (1 : Int32) then
    f_Stand_start_18  (w2 sg a0 0 x1) a0 x1 a2 a0 (5 : Int32)
  else
    f_Stand_start_18  (w2 sg a0 0 x1) a0 x1 a2 a0 (3 : Int32)
/-! BoxSpider$Stand.roll, method 41 -/
def f_Stand_roll (sg : Hp) (a0 : Nat) (x1 : Int32) : Option (Hp) :=
  if x1 = (1 : Int32) then
    some (w2 (w2 (w2 (w2 (w2 sg a0 0 (sg a0 1)) a0 1 ((sg a0 0) ^^^ (1 : Int32))) a0 3 (((w2 (w2 sg a0 0 (sg a0 1)) a0 1 ((sg a0 0) ^^^ (1 : Int32))) a0 3) + ((w2 (w2 sg a0 0 (sg a0 1)) a0 1 ((sg a0 0) ^^^ (1 : Int32))) a0 5))) a0 7 ((w2 (w2 (w2 sg a0 0 (sg a0 1)) a0 1 ((sg a0 0) ^^^ (1 : Int32))) a0 3 (((w2 (w2 sg a0 0 (sg a0 1)) a0 1 ((sg a0 0) ^^^ (1 : Int32))) a0 3) + ((w2 (w2 sg a0 0 (sg a0 1)) a0 1 ((sg a0 0) ^^^ (1 : Int32))) a0 5))) a0 5)) a0 5 (sg a0 7))
  else
    if x1 = (2 : Int32) then
      some (w2 (w2 (w2 (w2 (w2 sg a0 0 ((sg a0 1) ^^^ (1 : Int32))) a0 1 (sg a0 0)) a0 3 (((w2 (w2 sg a0 0 ((sg a0 1) ^^^ (1 : Int32))) a0 1 (sg a0 0)) a0 3) - ((w2 (w2 sg a0 0 ((sg a0 1) ^^^ (1 : Int32))) a0 1 (sg a0 0)) a0 7))) a0 7 ((w2 (w2 (w2 sg a0 0 ((sg a0 1) ^^^ (1 : Int32))) a0 1 (sg a0 0)) a0 3 (((w2 (w2 sg a0 0 ((sg a0 1) ^^^ (1 : Int32))) a0 1 (sg a0 0)) a0 3) - ((w2 (w2 sg a0 0 ((sg a0 1) ^^^ (1 : Int32))) a0 1 (sg a0 0)) a0 7))) a0 5)) a0 5 (sg a0 7))
    else
      if x1 = (3 : Int32) then
        some (w2 (w2 (w2 (w2 (w2 sg a0 0 (sg a0 2)) a0 2 ((sg a0 0) ^^^ (1 : Int32))) a0 4 (((w2 (w2 sg a0 0 (sg a0 2)) a0 2 ((sg a0 0) ^^^ (1 : Int32))) a0 4) + ((w2 (w2 sg a0 0 (sg a0 2)) a0 2 ((sg a0 0) ^^^ (1 : Int32))) a0 6))) a0 7 ((w2 (w2 (w2 sg a0 0 (sg a0 2)) a0 2 ((sg a0 0) ^^^ (1 : Int32))) a0 4 (((w2 (w2 sg a0 0 (sg a0 2)) a0 2 ((sg a0 0) ^^^ (1 : Int32))) a0 4) + ((w2 (w2 sg a0 0 (sg a0 2)) a0 2 ((sg a0 0) ^^^ (1 : Int32))) a0 6))) a0 6)) a0 6 (sg a0 7))
      else
        if x1 = (4 : Int32) then
          some (w2 (w2 (w2 (w2 (w2 sg a0 0 ((sg a0 2) ^^^ (1 : Int32))) a0 2 (sg a0 0)) a0 4 (((w2 (w2 sg a0 0 ((sg a0 2) ^^^ (1 : Int32))) a0 2 (sg a0 0)) a0 4) - ((w2 (w2 sg a0 0 ((sg a0 2) ^^^ (1 : Int32))) a0 2 (sg a0 0)) a0 7))) a0 7 ((w2 (w2 (w2 sg a0 0 ((sg a0 2) ^^^ (1 : Int32))) a0 2 (sg a0 0)) a0 4 (((w2 (w2 sg a0 0 ((sg a0 2) ^^^ (1 : Int32))) a0 2 (sg a0 0)) a0 4) - ((w2 (w2 sg a0 0 ((sg a0 2) ^^^ (1 : Int32))) a0 2 (sg a0 0)) a0 7))) a0 6)) a0 6 (sg a0 7))
        else
          some sg
/-! BoxSpider.standBehind, method 39 -/
def f_Box_standBehind_17  : Nat → Hp → Int32 → Int32 → Option (Hp)
  | 0, _, _, _ => none
  | n + 1, sg, x1, x2 =>
    if x1 ≤ x2 then
      some sg
    else
      if (sg 9 1) ≤ x2 then
        some sg
      else
        if inb x2 40 = true then
          (f_Rolls_rollOf sg (sg 10 (x2).toNatClampNeg)).bind fun y3 =>
            (f_Stand_roll y3.2 33 y3.1).bind fun y4 =>
              f_Box_standBehind_17 n y4 x1 (x2 + (1 : Int32))
        else none
def f_Box_standBehind (sg : Hp) (x1 : Int32) : Option (Hp) :=
  (f_Stand_start sg 33 (0 : Int32) 2).bind fun y1 =>
    f_Box_standBehind_17  LF y1 x1 (0 : Int32)
/-! BoxSpider.laidOut, method 37 -/
def f_Box_laidOut (sg : Hp) (x1 : Int32) (x2 : Int32) : Option (Int32 × Hp) :=
  if x1 < (0 : Int32) then
    some ((-10002 : Int32), sg)
  else
    (f_Rolls_valid sg ).bind fun y1 =>
      if y1.1 < x1 then
        some ((-10002 : Int32), y1.2)
      else
        if x2 < (0 : Int32) then
          some ((-10002 : Int32), y1.2)
        else
          if x2 ≤ (4 : Int32) then
            (f_Box_standBehind y1.2 x1).bind fun y2 =>
              if x2 = (0 : Int32) then
                some ((y2 33 0), y2)
              else
                if x2 = (1 : Int32) then
                  some ((y2 33 3), y2)
                else
                  if x2 = (2 : Int32) then
                    some ((y2 33 4), y2)
                  else
                    if x2 = (3 : Int32) then
                      some ((y2 33 5), y2)
                    else
                      some ((y2 33 6), y2)
          else
            some ((-10002 : Int32), y1.2)
/-! BoxSpiderModel.rolls, method 131 -/
def f_Mod_rolls (sg : Hp)  : Option (Int32 × Hp) :=
  (f_Mod_fault sg ).bind fun y1 =>
    if y1.1 = (-1 : Int32) then
      some ((y1.2 46 9), y1.2)
    else
      some ((0 : Int32), y1.2)
/-! BoxSpiderModel.begins, method 134 -/
def f_Mod_begins_33 (k2 : Hp → Int32 → Option (Hp)) (sg : Hp) (x1 : Int32) (xs1 : Int32) (xs2 : Int32) : Option (Hp) :=
  if inb xs1 560 = true then
    k2 (w2 sg 55 (xs1).toNatClampNeg xs2) (x1 + (1 : Int32))
  else none
def f_Mod_begins_28 (k2 : Hp → Int32 → Option (Hp)) (sg : Hp) (x1 : Int32) (xs1 : Int32) : Option (Hp) :=
  f_Mod_begins_33 k2 sg x1 xs1 (1 : Int32)
def f_Mod_begins_2  : Nat → Hp → Int32 → Option (Hp)
  | 0, _, _ => none
  | n + 1, sg, x1 =>
    if (14 : Int32) ≤ x1 then
      some sg
    else
      if x1 = (0 : Int32) then
        f_Mod_begins_28 (f_Mod_begins_2 n) sg x1 x1
      else
        if x1 = (4 : Int32) then
          f_Mod_begins_28 (f_Mod_begins_2 n) sg x1 x1
        else
          if x1 = (8 : Int32) then
            f_Mod_begins_28 (f_Mod_begins_2 n) sg x1 x1
          else
            f_Mod_begins_33 (f_Mod_begins_2 n) sg x1 x1 (0 : Int32)
def f_Mod_begins (sg : Hp)  : Option (Hp) :=
  f_Mod_begins_2  LF sg (0 : Int32)
/-! BoxSpiderModel.far, method 136 -/
def f_Mod_far (sg : Hp) (x1 : Int32) (x2 : Int32) : Option (Int32 × Hp) :=
  if inb (((14 : Int32) * x1) + x2) 560 = true then
    if (sg 55 ((((14 : Int32) * x1) + x2)).toNatClampNeg) = (0 : Int32) then
      if inb ((((14 : Int32) * x1) + x2) + (1 : Int32)) 560 = true then
        if (sg 55 (((((14 : Int32) * x1) + x2) + (1 : Int32))).toNatClampNeg) = (0 : Int32) then
          some ((sg 51 2), sg)
        else
          some ((sg 51 1), sg)
      else none
    else
      some ((sg 51 0), sg)
  else none
/-! BoxSpiderModel.southWest, method 137 -/
def f_Mod_southWest (sg : Hp) (x1 : Int32) (x2 : Int32) : Option (Int32 × Hp) :=
  if inb ((((14 : Int32) * x1) + (12 : Int32)) + x2) 560 = true then
    some ((sg 55 (((((14 : Int32) * x1) + (12 : Int32)) + x2)).toNatClampNeg), sg)
  else none
/-! BoxSpiderModel.turns, method 135 -/
def f_Mod_turns_325  (sg : Hp) (x1 : Int32) (x6 : Int32) (x10 : Int32) (xs1 : Int32) (xs2 : Int32) (xs3 : Int32) : Option (Hp) :=
  if inb xs1 160 = true then
    (f_Mod_southWest (w2 sg 56 (xs1).toNatClampNeg (xs2 + xs3)) x1 ((1 : Int32) - x10)).bind fun y10 =>
      if inb (((4 : Int32) * x1) + (2 : Int32)) 160 = true then
        (f_Mod_southWest (w2 y10.2 56 ((((4 : Int32) * x1) + (2 : Int32))).toNatClampNeg y10.1) x1 ((1 : Int32) - x10)).bind fun y12 =>
          (f_Mod_far y12.2 x1 x6).bind fun y13 =>
            if inb (((4 : Int32) * x1) + (3 : Int32)) 160 = true then
              some (w2 y13.2 56 ((((4 : Int32) * x1) + (3 : Int32))).toNatClampNeg (y12.1 + y13.1))
            else none
      else none
  else none
def f_Mod_turns_262  (sg : Hp) (x1 : Int32) (x4 : Int32) (x6 : Int32) (x7 : Int32) (x8 : Int32) (x10 : Int32) (xs1 : Int32) (xs2 : Int32) (xs3 : Int32) : Option (Hp) :=
  if inb xs1 560 = true then
    (f_Mod_southWest (w2 sg 55 (xs1).toNatClampNeg (xs2 + xs3)) x1 ((1 : Int32) - x10)).bind fun y5 =>
      if inb ((x4 + (13 : Int32)) - x10) 560 = true then
        if inb ((4 : Int32) * x1) 160 = true then
          (f_Mod_southWest (w2 (w2 y5.2 55 (((x4 + (13 : Int32)) - x10)).toNatClampNeg y5.1) 56 (((4 : Int32) * x1)).toNatClampNeg ((1 : Int32) - x10)) x1 x10).bind fun y8 =>
            if x7 = (0 : Int32) then
              f_Mod_turns_325  y8.2 x1 x6 x10 (((4 : Int32) * x1) + (1 : Int32)) y8.1 (0 : Int32)
            else
              f_Mod_turns_325  y8.2 x1 x6 x10 (((4 : Int32) * x1) + (1 : Int32)) y8.1 x8
        else none
      else none
  else none
def f_Mod_turns_216 (k63 : Hp → Int32 → Int32 → Int32 → Int32 → Int32 → Int32 → Int32 → Int32 → Int32 → Option (Hp)) (sg : Hp) (x1 : Int32) (x3 : Int32) (x4 : Int32) (x5 : Int32) (x6 : Int32) (x7 : Int32) (x8 : Int32) (x9 : Int32) (x10 : Int32) (xs1 : Int32) (xs2 : Int32) (xs3 : Int32) : Option (Hp) :=
  if inb xs1 560 = true then
    k63 (w2 sg 55 (xs1).toNatClampNeg (xs2 + xs3)) x1 x3 x4 x5 x6 x7 x8 x9 (x10 + (1 : Int32))
  else none
def f_Mod_turns_173 (k63 : Hp → Int32 → Int32 → Int32 → Int32 → Int32 → Int32 → Int32 → Int32 → Int32 → Option (Hp)) (sg : Hp) (x1 : Int32) (x3 : Int32) (x4 : Int32) (x5 : Int32) (x6 : Int32) (x7 : Int32) (x8 : Int32) (x9 : Int32) (x10 : Int32) (x11 : Int32) (x12 : Int32) (xs1 : Int32) (xs2 : Int32) : Option (Hp) :=
  if inb xs1 560 = true then
    if inb ((x3 + (9 : Int32)) + x10) 560 = true then
      if x7 = (0 : Int32) then
        f_Mod_turns_216 k63 (w2 sg 55 (xs1).toNatClampNeg xs2) x1 x3 x4 x5 x6 x7 x8 x9 x10 ((x4 + (9 : Int32)) + x10) ((w2 sg 55 (xs1).toNatClampNeg xs2) 55 (((x3 + (9 : Int32)) + x10)).toNatClampNeg) (x9 * x12)
      else
        f_Mod_turns_216 k63 (w2 sg 55 (xs1).toNatClampNeg xs2) x1 x3 x4 x5 x6 x7 x8 x9 x10 ((x4 + (9 : Int32)) + x10) ((w2 sg 55 (xs1).toNatClampNeg xs2) 55 (((x3 + (9 : Int32)) + x10)).toNatClampNeg) (x8 * x11)
    else none
  else none
def f_Mod_turns_122 (k63 : Hp → Int32 → Int32 → Int32 → Int32 → Int32 → Int32 → Int32 → Int32 → Int32 → Option (Hp)) (sg : Hp) (x1 : Int32) (x3 : Int32) (x4 : Int32) (x5 : Int32) (x6 : Int32) (x7 : Int32) (x8 : Int32) (x9 : Int32) (x10 : Int32) (x11 : Int32) (x12 : Int32) (xs1 : Int32) (xs2 : Int32) : Option (Hp) :=
  if inb xs1 560 = true then
    if inb ((x3 + x6) + x10) 560 = true then
      if inb ((x4 + x6) + x10) 560 = true then
        if x7 = (0 : Int32) then
          f_Mod_turns_173 k63 (w2 (w2 sg 55 (xs1).toNatClampNeg xs2) 55 (((x4 + x6) + x10)).toNatClampNeg ((w2 sg 55 (xs1).toNatClampNeg xs2) 55 (((x3 + x6) + x10)).toNatClampNeg)) x1 x3 x4 x5 x6 x7 x8 x9 x10 x11 x12 ((x4 + (6 : Int32)) + x10) x11
        else
          f_Mod_turns_173 k63 (w2 (w2 sg 55 (xs1).toNatClampNeg xs2) 55 (((x4 + x6) + x10)).toNatClampNeg ((w2 sg 55 (xs1).toNatClampNeg xs2) 55 (((x3 + x6) + x10)).toNatClampNeg)) x1 x3 x4 x5 x6 x7 x8 x9 x10 x11 x12 ((x4 + (6 : Int32)) + x10) (-x11)
      else none
    else none
  else none
def f_Mod_turns_63  : Nat → Hp → Int32 → Int32 → Int32 → Int32 → Int32 → Int32 → Int32 → Int32 → Int32 → Option (Hp)
  | 0, _, _, _, _, _, _, _, _, _, _ => none
  | n + 1, sg, x1, x3, x4, x5, x6, x7, x8, x9, x10 =>
    if (3 : Int32) ≤ x10 then
      (f_Mod_southWest sg x1 (x5 / (3 : Int32))).bind fun y3 =>
        if x7 = (0 : Int32) then
          f_Mod_turns_262  y3.2 x1 x4 x6 x7 x8 (x5 / (3 : Int32)) ((x4 + (12 : Int32)) + (x5 / (3 : Int32))) y3.1 (-x9)
        else
          f_Mod_turns_262  y3.2 x1 x4 x6 x7 x8 (x5 / (3 : Int32)) ((x4 + (12 : Int32)) + (x5 / (3 : Int32))) y3.1 x8
    else
      if inb ((x3 + x5) + x10) 560 = true then
        if inb ((x3 + (6 : Int32)) + x10) 560 = true then
          if x7 = (0 : Int32) then
            f_Mod_turns_122 (f_Mod_turns_63 n) sg x1 x3 x4 x5 x6 x7 x8 x9 x10 (sg 55 (((x3 + x5) + x10)).toNatClampNeg) (sg 55 (((x3 + (6 : Int32)) + x10)).toNatClampNeg) ((x4 + x5) + x10) (-(sg 55 (((x3 + (6 : Int32)) + x10)).toNatClampNeg))
          else
            f_Mod_turns_122 (f_Mod_turns_63 n) sg x1 x3 x4 x5 x6 x7 x8 x9 x10 (sg 55 (((x3 + x5) + x10)).toNatClampNeg) (sg 55 (((x3 + (6 : Int32)) + x10)).toNatClampNeg) ((x4 + x5) + x10) (sg 55 (((x3 + (6 : Int32)) + x10)).toNatClampNeg)
        else none
      else none
def f_Mod_turns_40  (sg : Hp) (x1 : Int32) (x3 : Int32) (x4 : Int32) (x5 : Int32) (x6 : Int32) (xs0 : Int32) : Option (Hp) :=
  (f_Mod_far sg x1 x5).bind fun y1 =>
    (f_Mod_far y1.2 x1 (6 : Int32)).bind fun y2 =>
      f_Mod_turns_63  LF y2.2 x1 x3 x4 x5 x6 xs0 y1.1 y2.1 (0 : Int32)
def f_Mod_turns_21  (sg : Hp) (x1 : Int32) (x2 : Int32) (x3 : Int32) (x4 : Int32) (xs0 : Int32) : Option (Hp) :=
  if (x2 - x2 / (2 : Int32) * (2 : Int32)) = (0 : Int32) then
    f_Mod_turns_40  sg x1 x3 x4 xs0 ((3 : Int32) - xs0) (1 : Int32)
  else
    f_Mod_turns_40  sg x1 x3 x4 xs0 ((3 : Int32) - xs0) (0 : Int32)
def f_Mod_turns (sg : Hp) (x1 : Int32) (x2 : Int32) : Option (Hp) :=
  if (2 : Int32) ≤ x2 then
    f_Mod_turns_21  sg x1 x2 ((14 : Int32) * x1) (((14 : Int32) * x1) + (14 : Int32)) (3 : Int32)
  else
    f_Mod_turns_21  sg x1 x2 ((14 : Int32) * x1) (((14 : Int32) * x1) + (14 : Int32)) (0 : Int32)
/-! BoxSpiderModel.goesTo, method 133 -/
def f_Mod_goesTo_6  : Nat → Hp → Int32 → Int32 → Option (Hp)
  | 0, _, _, _ => none
  | n + 1, sg, x1, x2 =>
    if x1 ≤ x2 then
      some sg
    else
      if inb x2 40 = true then
        (f_Mod_rollOf sg (sg 54 (x2).toNatClampNeg)).bind fun y3 =>
          (f_Mod_turns y3.2 x2 y3.1).bind fun y4 =>
            f_Mod_goesTo_6 n y4 x1 (x2 + (1 : Int32))
      else none
def f_Mod_goesTo (sg : Hp) (x1 : Int32) : Option (Hp) :=
  (f_Mod_begins sg ).bind fun y1 =>
    f_Mod_goesTo_6  LF y1 x1 (0 : Int32)
/-! BoxSpiderModel.faceAt, method 138 -/
def f_Mod_faceAt_56  (sg : Hp) (x2 : Int32) (x3 : Int32) (xs0 : Int32) : Option (Int32 × Hp) :=
  if inb (x2 + x3) 560 = true then
    if (sg 55 ((x2 + x3)).toNatClampNeg) ≤ (0 : Int32) then
      some ((xs0 + (1 : Int32)), sg)
    else
      some (xs0, sg)
  else none
def f_Mod_faceAt_37  (sg : Hp) (x2 : Int32) (xs0 : Int32) : Option (Int32 × Hp) :=
  if xs0 = (2 : Int32) then
    f_Mod_faceAt_56  sg x2 xs0 (0 : Int32)
  else
    if xs0 = (0 : Int32) then
      f_Mod_faceAt_56  sg x2 xs0 (2 : Int32)
    else
      f_Mod_faceAt_56  sg x2 xs0 (4 : Int32)
def f_Mod_faceAt (sg : Hp) (x1 : Int32) : Option (Int32 × Hp) :=
  if inb (((14 : Int32) * x1) + (6 : Int32)) 560 = true then
    if (sg 55 ((((14 : Int32) * x1) + (6 : Int32))).toNatClampNeg) = (0 : Int32) then
      if inb ((((14 : Int32) * x1) + (6 : Int32)) + (1 : Int32)) 560 = true then
        if (sg 55 (((((14 : Int32) * x1) + (6 : Int32)) + (1 : Int32))).toNatClampNeg) = (0 : Int32) then
          f_Mod_faceAt_37  sg (((14 : Int32) * x1) + (6 : Int32)) (2 : Int32)
        else
          f_Mod_faceAt_37  sg (((14 : Int32) * x1) + (6 : Int32)) (1 : Int32)
      else none
    else
      f_Mod_faceAt_37  sg (((14 : Int32) * x1) + (6 : Int32)) (0 : Int32)
  else none
/-! BoxSpiderModel.laidOf, method 132 -/
def f_Mod_laidOf (sg : Hp) (x1 : Int32) (x2 : Int32) : Option (Int32 × Hp) :=
  (f_Mod_goesTo sg x1).bind fun y1 =>
    if x2 = (0 : Int32) then
      (f_Mod_faceAt y1 x1).bind fun y4 =>
        some (y4.1, y4.2)
    else
      if (3 : Int32) ≤ x2 then
        (f_Mod_far y1 x1 ((3 : Int32) * (x2 - (3 : Int32)))).bind fun y2 =>
          some (y2.1, y2.2)
      else
        (f_Mod_southWest y1 x1 (x2 - (1 : Int32))).bind fun y3 =>
          some (y3.1, y3.2)
/-! BoxSpiderModel.laidOut, method 130 -/
def f_Mod_laidOut (sg : Hp) (x1 : Int32) (x2 : Int32) : Option (Int32 × Hp) :=
  (f_Mod_rolls sg ).bind fun y1 =>
    (f_Mod_in y1.2 (x1).toInt64 (0 : Int64) (y1.1).toInt64).bind fun y2 =>
      if y2.1 = (0 : Int32) then
        some ((-10002 : Int32), y2.2)
      else
        (f_Mod_in y2.2 (x2).toInt64 (0 : Int64) (4 : Int64)).bind fun y3 =>
          if y3.1 = (0 : Int32) then
            some ((-10002 : Int32), y3.2)
          else
            (f_Mod_laidOf y3.2 x1 x2).bind fun y4 =>
              some (y4.1, y4.2)
/-! BoxSpider$Spot.isOn, method 43 -/
def f_Spot_isOn (sg : Hp) (a0 : Nat) (x1 : Int32) : Option (Int32 × Hp) :=
  if inb x1 6 = true then
    if (sg (rt a0 0) (x1).toNatClampNeg) = (0 : Int32) then
      some ((1 : Int32), sg)
    else
      some ((0 : Int32), sg)
  else none
/-! BoxSpider$Stand.planeX, method 44 -/
def f_Stand_planeX (sg : Hp) (a0 : Nat) (a1 : Nat) : Option (Int32 × Hp) :=
  if inb ((sg a0 1) ^^^ (1 : Int32)) 6 = true then
    some (((sg a0 3) + (sg (rt a1 0) (((sg a0 1) ^^^ (1 : Int32))).toNatClampNeg)), sg)
  else none
/-! BoxSpider$Stand.planeY, method 45 -/
def f_Stand_planeY (sg : Hp) (a0 : Nat) (a1 : Nat) : Option (Int32 × Hp) :=
  if inb ((sg a0 2) ^^^ (1 : Int32)) 6 = true then
    some (((sg a0 4) + (sg (rt a1 0) (((sg a0 2) ^^^ (1 : Int32))).toNatClampNeg)), sg)
  else none
/-! BoxSpider.lies, method 42 -/
def f_Box_lies (sg : Hp) (x1 : Int32) (x2 : Int32) (x3 : Int32) : Option (Int32 × Hp) :=
  (f_Box_isPlace sg x1).bind fun y1 =>
    if y1.1 = (0 : Int32) then
      some ((-10002 : Int32), y1.2)
    else
      if x2 < (0 : Int32) then
        some ((-10002 : Int32), y1.2)
      else
        (f_Rolls_valid y1.2 ).bind fun y2 =>
          if y2.1 < x2 then
            some ((-10002 : Int32), y2.2)
          else
            if x3 < (0 : Int32) then
              some ((-10002 : Int32), y2.2)
            else
              if x3 ≤ (1 : Int32) then
                (f_Box_standBehind y2.2 x2).bind fun y3 =>
                  (f_Room_spotOf y3 x1 35).bind fun y4 =>
                    (f_Spot_isOn y4 35 (y4 33 0)).bind fun y5 =>
                      if y5.1 = (0 : Int32) then
                        some ((-10003 : Int32), y5.2)
                      else
                        if x3 = (0 : Int32) then
                          (f_Stand_planeX y5.2 33 35).bind fun y7 =>
                            some (y7.1, y7.2)
                        else
                          (f_Stand_planeY y5.2 33 35).bind fun y6 =>
                            some (y6.1, y6.2)
              else
                some ((-10002 : Int32), y2.2)
/-! BoxSpiderModel.imageOf, method 142 -/
def f_Mod_imageOf_17  : Nat → Hp → Int32 → Int32 → Int32 → Int32 → Int32 → Option (Int32 × Hp)
  | 0, _, _, _, _, _, _ => none
  | n + 1, sg, x1, x4, x5, x6, x7 =>
    if (3 : Int32) ≤ x7 then
      some (x6, sg)
    else
      if inb (((3 : Int32) * x1) + x7) 24 = true then
        if inb ((x5 + (9 : Int32)) + x7) 560 = true then
          if inb ((x5 + x4) + x7) 560 = true then
            f_Mod_imageOf_17 n sg x1 x4 x5 (x6 + (((sg 52 ((((3 : Int32) * x1) + x7)).toNatClampNeg) - (sg 55 (((x5 + (9 : Int32)) + x7)).toNatClampNeg)) * (sg 55 (((x5 + x4) + x7)).toNatClampNeg))) (x7 + (1 : Int32))
          else none
        else none
      else none
def f_Mod_imageOf (sg : Hp) (x1 : Int32) (x2 : Int32) (x3 : Int32) (x4 : Int32) : Option (Int32 × Hp) :=
  (f_Mod_southWest sg x2 x3).bind fun y1 =>
    f_Mod_imageOf_17  LF y1.2 x1 x4 ((14 : Int32) * x2) y1.1 (0 : Int32)
/-! BoxSpiderModel.liesAt, method 141 -/
def f_Mod_liesAt (sg : Hp) (x1 : Int32) (x2 : Int32) (x3 : Int32) : Option (Int32 × Hp) :=
  (f_Mod_imageOf sg x1 x2 x3 ((3 : Int32) * x3)).bind fun y1 =>
    some (y1.1, y1.2)
/-! BoxSpiderModel.liesOf, method 140 -/
def f_Mod_liesOf (sg : Hp) (x1 : Int32) (x2 : Int32) (x3 : Int32) : Option (Int32 × Hp) :=
  (f_Mod_goesTo sg x2).bind fun y1 =>
    (f_Mod_faceAt y1 x2).bind fun y2 =>
      (f_Mod_isOn y2.2 y2.1 x1).bind fun y3 =>
        if y3.1 = (0 : Int32) then
          some ((-10003 : Int32), y3.2)
        else
          (f_Mod_liesAt y3.2 x1 x2 x3).bind fun y4 =>
            some (y4.1, y4.2)
/-! BoxSpiderModel.lies, method 139 -/
def f_Mod_lies (sg : Hp) (x1 : Int32) (x2 : Int32) (x3 : Int32) : Option (Int32 × Hp) :=
  (f_Mod_isPlace sg x1).bind fun y1 =>
    if y1.1 = (0 : Int32) then
      some ((-10002 : Int32), y1.2)
    else
      (f_Mod_rolls y1.2 ).bind fun y2 =>
        (f_Mod_in y2.2 (x2).toInt64 (0 : Int64) (y2.1).toInt64).bind fun y3 =>
          if y3.1 = (0 : Int32) then
            some ((-10002 : Int32), y3.2)
          else
            (f_Mod_isTwo y3.2 x3).bind fun y4 =>
              if y4.1 = (0 : Int32) then
                some ((-10002 : Int32), y4.2)
              else
                (f_Mod_liesOf y4.2 x1 x2 x3).bind fun y5 =>
                  some (y5.1, y5.2)
/-! BoxSpider$Line.begin, method 51 -/
def f_Line_begin (sg : Hp) (a0 : Nat) (x1 : Int32) (x2 : Int32) : Option (Hp) :=
  some (w2 (w2 sg a0 0 x1) a0 1 x2)
/-! BoxSpider$Line.end, method 52 -/
def f_Line_end (sg : Hp) (a0 : Nat) (x1 : Int32) (x2 : Int32) : Option (Hp) :=
  some (w2 (w2 sg a0 2 x1) a0 3 x2)
/-! BoxSpider$Line.square, method 53 -/
def f_Line_square (sg : Hp) (a0 : Nat) : Option (Int32 × Hp) :=
  some (((((sg a0 2) - (sg a0 0)) * ((sg a0 2) - (sg a0 0))) + (((sg a0 3) - (sg a0 1)) * ((sg a0 3) - (sg a0 1)))), sg)
/-! BoxSpider$Line.meets, method 54 -/
def f_Line_meets_230  (sg : Hp) (x4 : Int32) (x5 : Int32) (x6 : Int32) (x7 : Int32) (x8 : Int32) : Option (Int32 × Hp) :=
  if x6 < (0 : Int32) then
    some ((0 : Int32), sg)
  else
    if x4 < x6 then
      some ((0 : Int32), sg)
    else
      if (x5 * x6) < (x7 * x4) then
        some ((0 : Int32), sg)
      else
        if (x8 * x4) < (x5 * x6) then
          some ((0 : Int32), sg)
        else
          some ((1 : Int32), sg)
def f_Line_meets_209  (sg : Hp)  : Option (Int32 × Hp) :=
  some ((1 : Int32), sg)
def f_Line_meets_197  (sg : Hp) (x5 : Int32) (x8 : Int32) : Option (Int32 × Hp) :=
  if (0 : Int32) ≤ x8 then
    f_Line_meets_209  sg 
  else
    if x8 < x5 then
      some ((0 : Int32), sg)
    else
      f_Line_meets_209  sg 
def f_Line_meets_175  (sg : Hp) (x4 : Int32) (x5 : Int32) (x6 : Int32) (x7 : Int32) (x8 : Int32) : Option (Int32 × Hp) :=
  if x4 = (0 : Int32) then
    if x6 = (0 : Int32) then
      if x7 ≤ (0 : Int32) then
        f_Line_meets_197  sg x5 x8
      else
        if x5 < x7 then
          some ((0 : Int32), sg)
        else
          f_Line_meets_197  sg x5 x8
    else
      some ((0 : Int32), sg)
  else
    if (0 : Int32) ≤ x4 then
      f_Line_meets_230  sg x4 x5 x6 x7 x8
    else
      f_Line_meets_230  sg (-x4) x5 (-x6) x7 x8
def f_Line_meets_141  (sg : Hp) (a1 : Nat) (x2 : Int32) (x4 : Int32) (x5 : Int32) (x6 : Int32) (x7 : Int32) (xs0 : Int32) (xs1 : Int32) : Option (Int32 × Hp) :=
  if x2 = (1 : Int32) then
    f_Line_meets_175  sg x4 x5 (x6 + (sg a1 5)) x7 (xs0 + xs1)
  else
    if x2 = (3 : Int32) then
      f_Line_meets_175  sg x4 x5 (x6 + (sg a1 6)) x7 (xs0 + xs1)
    else
      f_Line_meets_175  sg x4 x5 x6 x7 (xs0 + xs1)
def f_Line_meets_122  (sg : Hp) (a1 : Nat) (x2 : Int32) (x3 : Int32) (x4 : Int32) (x5 : Int32) (x6 : Int32) (xs0 : Int32) : Option (Int32 × Hp) :=
  if x3 = (0 : Int32) then
    f_Line_meets_141  sg a1 x2 x4 x5 x6 xs0 xs0 (sg a1 5)
  else
    f_Line_meets_141  sg a1 x2 x4 x5 x6 xs0 xs0 (sg a1 6)
def f_Line_meets_95  (sg : Hp) (a0 : Nat) (a1 : Nat) (x2 : Int32) (x3 : Int32) (x4 : Int32) (x5 : Int32) (xs0 : Int32) : Option (Int32 × Hp) :=
  if x3 = (0 : Int32) then
    f_Line_meets_122  sg a1 x2 x3 x4 x5 xs0 ((sg a1 3) - (sg a0 0))
  else
    f_Line_meets_122  sg a1 x2 x3 x4 x5 xs0 ((sg a1 4) - (sg a0 1))
def f_Line_meets_68  (sg : Hp) (a0 : Nat) (a1 : Nat) (x2 : Int32) (x3 : Int32) (x4 : Int32) (xs0 : Int32) : Option (Int32 × Hp) :=
  if x3 = (0 : Int32) then
    f_Line_meets_95  sg a0 a1 x2 x3 x4 xs0 ((sg a1 4) - (sg a0 1))
  else
    f_Line_meets_95  sg a0 a1 x2 x3 x4 xs0 ((sg a1 3) - (sg a0 0))
def f_Line_meets_41  (sg : Hp) (a0 : Nat) (a1 : Nat) (x2 : Int32) (x3 : Int32) (xs0 : Int32) : Option (Int32 × Hp) :=
  if x3 = (0 : Int32) then
    f_Line_meets_68  sg a0 a1 x2 x3 xs0 ((sg a0 2) - (sg a0 0))
  else
    f_Line_meets_68  sg a0 a1 x2 x3 xs0 ((sg a0 3) - (sg a0 1))
def f_Line_meets_15  (sg : Hp) (a0 : Nat) (a1 : Nat) (x2 : Int32) (xs0 : Int32) : Option (Int32 × Hp) :=
  if xs0 = (0 : Int32) then
    f_Line_meets_41  sg a0 a1 x2 xs0 ((sg a0 3) - (sg a0 1))
  else
    f_Line_meets_41  sg a0 a1 x2 xs0 ((sg a0 2) - (sg a0 0))
def f_Line_meets_10  (sg : Hp) (a0 : Nat) (a1 : Nat) (x2 : Int32) : Option (Int32 × Hp) :=
  f_Line_meets_15  sg a0 a1 x2 (1 : Int32)
def f_Line_meets (sg : Hp) (a0 : Nat) (a1 : Nat) (x2 : Int32) : Option (Int32 × Hp) :=
  if x2 = (1 : Int32) then
    f_Line_meets_10  sg a0 a1 x2
  else
    if x2 = (2 : Int32) then
      f_Line_meets_10  sg a0 a1 x2
    else
      f_Line_meets_15  sg a0 a1 x2 (0 : Int32)
/-! BoxSpider$Search.packedRow, method 55 -/
def f_Search_packedRow_4  : Nat → Hp → Int32 → Int32 → Int32 → Option (Int32 × Hp)
  | 0, _, _, _, _ => none
  | n + 1, sg, x1, x2, x3 =>
    if x1 < x3 then
      some (x2, sg)
    else
      if inb x3 5 = true then
        f_Search_packedRow_4 n sg x1 (x2 ||| (((sg (rt 17 (x3).toNatClampNeg) 0) + (1 : Int32)) <<< (((3 : Int32) * x3) &&& 31))) (x3 + (1 : Int32))
      else none
def f_Search_packedRow (sg : Hp) (x1 : Int32) : Option (Int32 × Hp) :=
  f_Search_packedRow_4  LF sg x1 (0 : Int32) (0 : Int32)
/-! BoxSpider$Search.weigh, method 50 -/
def f_Search_weigh_181  (sg : Hp) (x1 : Int32) (x2 : Int32) : Option (Hp) :=
  (f_Search_packedRow (w2 (w2 sg 11 7 x2) 11 10 (x1 + (1 : Int32))) x1).bind fun y10 =>
    some (w2 y10.2 11 9 y10.1)
def f_Search_weigh_164  (sg : Hp) (x1 : Int32) (x2 : Int32) (x3 : Int32) (xs1 : Int32) : Option (Hp) :=
  if x3 = (0 : Int32) then
    if ((w2 sg 11 8 xs1) 11 10) ≤ (x1 + (1 : Int32)) then
      some (w2 sg 11 8 xs1)
    else
      f_Search_weigh_181  (w2 sg 11 8 xs1) x1 x2
  else
    f_Search_weigh_181  (w2 sg 11 8 xs1) x1 x2
def f_Search_weigh_148  (sg : Hp) (x1 : Int32) (x2 : Int32) (xs0 : Int32) : Option (Hp) :=
  if xs0 = (0 : Int32) then
    f_Search_weigh_164  sg x1 x2 xs0 ((sg 11 8) + (1 : Int32))
  else
    f_Search_weigh_164  sg x1 x2 xs0 (1 : Int32)
def f_Search_weigh_143  (sg : Hp) (x1 : Int32) (x2 : Int32) : Option (Hp) :=
  f_Search_weigh_148  sg x1 x2 (1 : Int32)
def f_Search_weigh_93  : Nat → Hp → Int32 → Int32 → Int32 → Option (Hp)
  | 0, _, _, _, _ => none
  | n + 1, sg, x1, x2, x3 =>
    if x1 ≤ x3 then
      if (sg 11 7) = (-1 : Int32) then
        f_Search_weigh_143  sg x1 x2
      else
        if (sg 11 7) ≤ x2 then
          f_Search_weigh_148  sg x1 x2 (0 : Int32)
        else
          f_Search_weigh_143  sg x1 x2
    else
      if inb x3 5 = true then
        if inb x3 5 = true then
          (f_Line_meets sg 16 (rt 17 (x3).toNatClampNeg) (sg 18 (x3).toNatClampNeg)).bind fun y13 =>
            if y13.1 = (0 : Int32) then
              some y13.2
            else
              f_Search_weigh_93 n y13.2 x1 x2 (x3 + (1 : Int32))
        else none
      else none
def f_Search_weigh_91  (sg : Hp) (x1 : Int32) (x2 : Int32) : Option (Hp) :=
  f_Search_weigh_93  LF sg x1 x2 (0 : Int32)
def f_Search_weigh (sg : Hp) (x1 : Int32) : Option (Hp) :=
  (f_Stand_planeX sg 19 12).bind fun y1 =>
    (f_Stand_planeY y1.2 19 12).bind fun y2 =>
      (f_Line_begin y2.2 16 y1.1 y2.1).bind fun y3 =>
        if inb x1 5 = true then
          (f_Stand_planeX y3 (rt 17 (x1).toNatClampNeg) 14).bind fun y5 =>
            if inb x1 5 = true then
              (f_Stand_planeY y5.2 (rt 17 (x1).toNatClampNeg) 14).bind fun y7 =>
                (f_Line_end y7.2 16 y5.1 y7.1).bind fun y8 =>
                  (f_Line_square y8 16).bind fun y9 =>
                    if (y9.2 11 7) = (-1 : Int32) then
                      f_Search_weigh_91  y9.2 x1 y9.1
                    else
                      if y9.1 ≤ (y9.2 11 7) then
                        f_Search_weigh_91  y9.2 x1 y9.1
                      else
                        some y9.2
            else none
        else none
/-! BoxSpider$Stand.rollTo, method 56 -/
def f_Stand_rollTo (sg : Hp) (a0 : Nat) (x1 : Int32) : Option (Int32 × Hp) :=
  if x1 = (sg a0 1) then
    some ((1 : Int32), sg)
  else
    if x1 = ((sg a0 1) ^^^ (1 : Int32)) then
      some ((2 : Int32), sg)
    else
      if x1 = (sg a0 2) then
        some ((3 : Int32), sg)
      else
        if x1 = ((sg a0 2) ^^^ (1 : Int32)) then
          some ((4 : Int32), sg)
        else
          some ((0 : Int32), sg)
/-! BoxSpider$Stand.follow, method 57 -/
def f_Stand_follow (sg : Hp) (a0 : Nat) (a1 : Nat) (x2 : Int32) : Option (Hp) :=
  (f_Stand_roll (w2 (w2 (w2 (w2 (w2 (w2 (w2 (w2 sg a0 0 (sg a1 0)) a0 1 ((w2 sg a0 0 (sg a1 0)) a1 1)) a0 2 ((w2 (w2 sg a0 0 (sg a1 0)) a0 1 ((w2 sg a0 0 (sg a1 0)) a1 1)) a1 2)) a0 3 ((w2 (w2 (w2 sg a0 0 (sg a1 0)) a0 1 ((w2 sg a0 0 (sg a1 0)) a1 1)) a0 2 ((w2 (w2 sg a0 0 (sg a1 0)) a0 1 ((w2 sg a0 0 (sg a1 0)) a1 1)) a1 2)) a1 3)) a0 4 ((w2 (w2 (w2 (w2 sg a0 0 (sg a1 0)) a0 1 ((w2 sg a0 0 (sg a1 0)) a1 1)) a0 2 ((w2 (w2 sg a0 0 (sg a1 0)) a0 1 ((w2 sg a0 0 (sg a1 0)) a1 1)) a1 2)) a0 3 ((w2 (w2 (w2 sg a0 0 (sg a1 0)) a0 1 ((w2 sg a0 0 (sg a1 0)) a1 1)) a0 2 ((w2 (w2 sg a0 0 (sg a1 0)) a0 1 ((w2 sg a0 0 (sg a1 0)) a1 1)) a1 2)) a1 3)) a1 4)) a0 5 ((w2 (w2 (w2 (w2 (w2 sg a0 0 (sg a1 0)) a0 1 ((w2 sg a0 0 (sg a1 0)) a1 1)) a0 2 ((w2 (w2 sg a0 0 (sg a1 0)) a0 1 ((w2 sg a0 0 (sg a1 0)) a1 1)) a1 2)) a0 3 ((w2 (w2 (w2 sg a0 0 (sg a1 0)) a0 1 ((w2 sg a0 0 (sg a1 0)) a1 1)) a0 2 ((w2 (w2 sg a0 0 (sg a1 0)) a0 1 ((w2 sg a0 0 (sg a1 0)) a1 1)) a1 2)) a1 3)) a0 4 ((w2 (w2 (w2 (w2 sg a0 0 (sg a1 0)) a0 1 ((w2 sg a0 0 (sg a1 0)) a1 1)) a0 2 ((w2 (w2 sg a0 0 (sg a1 0)) a0 1 ((w2 sg a0 0 (sg a1 0)) a1 1)) a1 2)) a0 3 ((w2 (w2 (w2 sg a0 0 (sg a1 0)) a0 1 ((w2 sg a0 0 (sg a1 0)) a1 1)) a0 2 ((w2 (w2 sg a0 0 (sg a1 0)) a0 1 ((w2 sg a0 0 (sg a1 0)) a1 1)) a1 2)) a1 3)) a1 4)) a1 5)) a0 6 ((w2 (w2 (w2 (w2 (w2 (w2 sg a0 0 (sg a1 0)) a0 1 ((w2 sg a0 0 (sg a1 0)) a1 1)) a0 2 ((w2 (w2 sg a0 0 (sg a1 0)) a0 1 ((w2 sg a0 0 (sg a1 0)) a1 1)) a1 2)) a0 3 ((w2 (w2 (w2 sg a0 0 (sg a1 0)) a0 1 ((w2 sg a0 0 (sg a1 0)) a1 1)) a0 2 ((w2 (w2 sg a0 0 (sg a1 0)) a0 1 ((w2 sg a0 0 (sg a1 0)) a1 1)) a1 2)) a1 3)) a0 4 ((w2 (w2 (w2 (w2 sg a0 0 (sg a1 0)) a0 1 ((w2 sg a0 0 (sg a1 0)) a1 1)) a0 2 ((w2 (w2 sg a0 0 (sg a1 0)) a0 1 ((w2 sg a0 0 (sg a1 0)) a1 1)) a1 2)) a0 3 ((w2 (w2 (w2 sg a0 0 (sg a1 0)) a0 1 ((w2 sg a0 0 (sg a1 0)) a1 1)) a0 2 ((w2 (w2 sg a0 0 (sg a1 0)) a0 1 ((w2 sg a0 0 (sg a1 0)) a1 1)) a1 2)) a1 3)) a1 4)) a0 5 ((w2 (w2 (w2 (w2 (w2 sg a0 0 (sg a1 0)) a0 1 ((w2 sg a0 0 (sg a1 0)) a1 1)) a0 2 ((w2 (w2 sg a0 0 (sg a1 0)) a0 1 ((w2 sg a0 0 (sg a1 0)) a1 1)) a1 2)) a0 3 ((w2 (w2 (w2 sg a0 0 (sg a1 0)) a0 1 ((w2 sg a0 0 (sg a1 0)) a1 1)) a0 2 ((w2 (w2 sg a0 0 (sg a1 0)) a0 1 ((w2 sg a0 0 (sg a1 0)) a1 1)) a1 2)) a1 3)) a0 4 ((w2 (w2 (w2 (w2 sg a0 0 (sg a1 0)) a0 1 ((w2 sg a0 0 (sg a1 0)) a1 1)) a0 2 ((w2 (w2 sg a0 0 (sg a1 0)) a0 1 ((w2 sg a0 0 (sg a1 0)) a1 1)) a1 2)) a0 3 ((w2 (w2 (w2 sg a0 0 (sg a1 0)) a0 1 ((w2 sg a0 0 (sg a1 0)) a1 1)) a0 2 ((w2 (w2 sg a0 0 (sg a1 0)) a0 1 ((w2 sg a0 0 (sg a1 0)) a1 1)) a1 2)) a1 3)) a1 4)) a1 5)) a1 6)) a0 7 ((w2 (w2 (w2 (w2 (w2 (w2 (w2 sg a0 0 (sg a1 0)) a0 1 ((w2 sg a0 0 (sg a1 0)) a1 1)) a0 2 ((w2 (w2 sg a0 0 (sg a1 0)) a0 1 ((w2 sg a0 0 (sg a1 0)) a1 1)) a1 2)) a0 3 ((w2 (w2 (w2 sg a0 0 (sg a1 0)) a0 1 ((w2 sg a0 0 (sg a1 0)) a1 1)) a0 2 ((w2 (w2 sg a0 0 (sg a1 0)) a0 1 ((w2 sg a0 0 (sg a1 0)) a1 1)) a1 2)) a1 3)) a0 4 ((w2 (w2 (w2 (w2 sg a0 0 (sg a1 0)) a0 1 ((w2 sg a0 0 (sg a1 0)) a1 1)) a0 2 ((w2 (w2 sg a0 0 (sg a1 0)) a0 1 ((w2 sg a0 0 (sg a1 0)) a1 1)) a1 2)) a0 3 ((w2 (w2 (w2 sg a0 0 (sg a1 0)) a0 1 ((w2 sg a0 0 (sg a1 0)) a1 1)) a0 2 ((w2 (w2 sg a0 0 (sg a1 0)) a0 1 ((w2 sg a0 0 (sg a1 0)) a1 1)) a1 2)) a1 3)) a1 4)) a0 5 ((w2 (w2 (w2 (w2 (w2 sg a0 0 (sg a1 0)) a0 1 ((w2 sg a0 0 (sg a1 0)) a1 1)) a0 2 ((w2 (w2 sg a0 0 (sg a1 0)) a0 1 ((w2 sg a0 0 (sg a1 0)) a1 1)) a1 2)) a0 3 ((w2 (w2 (w2 sg a0 0 (sg a1 0)) a0 1 ((w2 sg a0 0 (sg a1 0)) a1 1)) a0 2 ((w2 (w2 sg a0 0 (sg a1 0)) a0 1 ((w2 sg a0 0 (sg a1 0)) a1 1)) a1 2)) a1 3)) a0 4 ((w2 (w2 (w2 (w2 sg a0 0 (sg a1 0)) a0 1 ((w2 sg a0 0 (sg a1 0)) a1 1)) a0 2 ((w2 (w2 sg a0 0 (sg a1 0)) a0 1 ((w2 sg a0 0 (sg a1 0)) a1 1)) a1 2)) a0 3 ((w2 (w2 (w2 sg a0 0 (sg a1 0)) a0 1 ((w2 sg a0 0 (sg a1 0)) a1 1)) a0 2 ((w2 (w2 sg a0 0 (sg a1 0)) a0 1 ((w2 sg a0 0 (sg a1 0)) a1 1)) a1 2)) a1 3)) a1 4)) a1 5)) a0 6 ((w2 (w2 (w2 (w2 (w2 (w2 sg a0 0 (sg a1 0)) a0 1 ((w2 sg a0 0 (sg a1 0)) a1 1)) a0 2 ((w2 (w2 sg a0 0 (sg a1 0)) a0 1 ((w2 sg a0 0 (sg a1 0)) a1 1)) a1 2)) a0 3 ((w2 (w2 (w2 sg a0 0 (sg a1 0)) a0 1 ((w2 sg a0 0 (sg a1 0)) a1 1)) a0 2 ((w2 (w2 sg a0 0 (sg a1 0)) a0 1 ((w2 sg a0 0 (sg a1 0)) a1 1)) a1 2)) a1 3)) a0 4 ((w2 (w2 (w2 (w2 sg a0 0 (sg a1 0)) a0 1 ((w2 sg a0 0 (sg a1 0)) a1 1)) a0 2 ((w2 (w2 sg a0 0 (sg a1 0)) a0 1 ((w2 sg a0 0 (sg a1 0)) a1 1)) a1 2)) a0 3 ((w2 (w2 (w2 sg a0 0 (sg a1 0)) a0 1 ((w2 sg a0 0 (sg a1 0)) a1 1)) a0 2 ((w2 (w2 sg a0 0 (sg a1 0)) a0 1 ((w2 sg a0 0 (sg a1 0)) a1 1)) a1 2)) a1 3)) a1 4)) a0 5 ((w2 (w2 (w2 (w2 (w2 sg a0 0 (sg a1 0)) a0 1 ((w2 sg a0 0 (sg a1 0)) a1 1)) a0 2 ((w2 (w2 sg a0 0 (sg a1 0)) a0 1 ((w2 sg a0 0 (sg a1 0)) a1 1)) a1 2)) a0 3 ((w2 (w2 (w2 sg a0 0 (sg a1 0)) a0 1 ((w2 sg a0 0 (sg a1 0)) a1 1)) a0 2 ((w2 (w2 sg a0 0 (sg a1 0)) a0 1 ((w2 sg a0 0 (sg a1 0)) a1 1)) a1 2)) a1 3)) a0 4 ((w2 (w2 (w2 (w2 sg a0 0 (sg a1 0)) a0 1 ((w2 sg a0 0 (sg a1 0)) a1 1)) a0 2 ((w2 (w2 sg a0 0 (sg a1 0)) a0 1 ((w2 sg a0 0 (sg a1 0)) a1 1)) a1 2)) a0 3 ((w2 (w2 (w2 sg a0 0 (sg a1 0)) a0 1 ((w2 sg a0 0 (sg a1 0)) a1 1)) a0 2 ((w2 (w2 sg a0 0 (sg a1 0)) a0 1 ((w2 sg a0 0 (sg a1 0)) a1 1)) a1 2)) a1 3)) a1 4)) a1 5)) a1 6)) a1 7)) a0 x2).bind fun y1 =>
    some y1
/-! BoxSpider$Search.extend, method 49 -/
def f_Search_extend_144 (rc : Hp → Int32 → Int32 → Option (Hp)) (k86 : Hp → Int32 → Int32 → Nat → Int32 → Int32 → Int32 → Option (Hp)) (sg : Hp) (x1 : Int32) (x2 : Int32) (a3 : Nat) (x4 : Int32) (x5 : Int32) (x6 : Int32) : Option (Hp) :=
  k86 sg x1 x2 a3 x4 x5 (x6 + (1 : Int32))
def f_Search_extend_86 (rc : Hp → Int32 → Int32 → Option (Hp)) : Nat → Hp → Int32 → Int32 → Nat → Int32 → Int32 → Int32 → Option (Hp)
  | 0, _, _, _, _, _, _, _ => none
  | n + 1, sg, x1, x2, a3, x4, x5, x6 =>
    if (6 : Int32) ≤ x6 then
      some sg
    else
      if ((x5 >>> (x6 &&& 31)) &&& (1 : Int32)) = (0 : Int32) then
        (f_Stand_rollTo sg a3 x6).bind fun y3 =>
          if inb x1 5 = true then
            if inb x4 5 = true then
              if inb x1 5 = true then
                (f_Stand_follow (w2 y3.2 18 (x1).toNatClampNeg y3.1) (rt 17 (x4).toNatClampNeg) a3 ((w2 y3.2 18 (x1).toNatClampNeg y3.1) 18 (x1).toNatClampNeg)).bind fun y7 =>
                  (rc y7 x4 (x2 ||| ((1 : Int32) <<< (x6 &&& 31)))).bind fun y8 =>
                    f_Search_extend_144 rc (f_Search_extend_86 rc n) y8 x1 x2 a3 x4 x5 x6
              else none
            else none
          else none
      else
        f_Search_extend_144 rc (f_Search_extend_86 rc n) sg x1 x2 a3 x4 x5 x6
def f_Search_extend_83 (rc : Hp → Int32 → Int32 → Option (Hp)) (sg : Hp) (x1 : Int32) (x2 : Int32) (a3 : Nat) (x4 : Int32) (x5 : Int32) : Option (Hp) :=
  f_Search_extend_86 rc LF sg x1 x2 a3 x4 x5 (0 : Int32)
def f_Search_extend_27 (rc : Hp → Int32 → Int32 → Option (Hp)) (sg : Hp) (x1 : Int32) (x2 : Int32) (a3 : Nat) : Option (Hp) :=
  if (x1 + (1 : Int32)) < (5 : Int32) then
    if inb (sg a3 0) 6 = true then
      if ((x1 + (1 : Int32)) + (1 : Int32)) = (5 : Int32) then
        f_Search_extend_83 rc sg x1 x2 a3 (x1 + (1 : Int32)) (((x2 ||| (sg 6 ((sg a3 0)).toNatClampNeg)) ||| ((1 : Int32) <<< (((sg a3 0) ^^^ (1 : Int32)) &&& 31))) ||| ((sg 11 6) ^^^ (-1 : Int32)))
      else
        f_Search_extend_83 rc sg x1 x2 a3 (x1 + (1 : Int32)) ((x2 ||| (sg 6 ((sg a3 0)).toNatClampNeg)) ||| ((1 : Int32) <<< (((sg a3 0) ^^^ (1 : Int32)) &&& 31)))
    else none
  else
    some sg
def f_Search_extend : Nat → Hp → Int32 → Int32 → Option (Hp)
  | 0, _, _, _ => none
  | r + 1, sg, x1, x2 =>
    let rc := f_Search_extend r
    if inb x1 5 = true then
      if (((sg 11 6) >>> ((sg (rt 17 (x1).toNatClampNeg) 0) &&& 31)) &&& (1 : Int32)) = (1 : Int32) then
        (f_Search_weigh sg x1).bind fun y9 =>
          f_Search_extend_27 rc y9 x1 x2 (rt 17 (x1).toNatClampNeg)
      else
        f_Search_extend_27 rc sg x1 x2 (rt 17 (x1).toNatClampNeg)
    else none
/-! BoxSpider$Search.find, method 48 -/
def f_Search_find_69 (k33 : Hp → Nat → Int32 → Option (Hp)) (sg : Hp) (a1 : Nat) (x2 : Int32) : Option (Hp) :=
  k33 sg a1 (x2 + (1 : Int32))
def f_Search_find_33  : Nat → Hp → Nat → Int32 → Option (Hp)
  | 0, _, _, _ => none
  | n + 1, sg, a1, x2 =>
    if (6 : Int32) ≤ x2 then
      some sg
    else
      (f_Spot_isOn sg 12 x2).bind fun y2 =>
        if y2.1 = (0 : Int32) then
          f_Search_find_69 (f_Search_find_33 n) y2.2 a1 x2
        else
          (f_Stand_start y2.2 19 x2 a1).bind fun y3 =>
            (f_Search_extend 6 y3 (0 : Int32) ((1 : Int32) <<< (x2 &&& 31))).bind fun y4 =>
              f_Search_find_69 (f_Search_find_33 n) y4 a1 x2
def f_Search_find (sg : Hp) (a1 : Nat) : Option (Hp) :=
  (f_Spot_wallBits sg 14).bind fun y1 =>
    f_Search_find_33  LF (w2 (w2 (w2 (w2 (w2 y1.2 11 6 y1.1) 11 7 (-1 : Int32)) 11 8 (0 : Int32)) 11 9 (0 : Int32)) 11 10 (0 : Int32)) a1 (0 : Int32)
/-! BoxSpider$Table.look, method 47 -/
def f_Table_look (sg : Hp) (x1 : Int32) (x2 : Int32) : Option (Int32 × Hp) :=
  if inb (((8 : Int32) * x1) + x2) 64 = true then
    if (sg 28 ((((8 : Int32) * x1) + x2)).toNatClampNeg) = (sg 1 6) then
      some ((((8 : Int32) * x1) + x2), sg)
    else
      (f_Room_spotOf sg x1 12).bind fun y2 =>
        (f_Room_spotOf y2 x2 14).bind fun y3 =>
          (f_Search_find y3 2).bind fun y4 =>
            if inb (((8 : Int32) * x1) + x2) 64 = true then
              if inb (((8 : Int32) * x1) + x2) 64 = true then
                if inb (((8 : Int32) * x1) + x2) 64 = true then
                  if inb (((8 : Int32) * x1) + x2) 64 = true then
                    some ((((8 : Int32) * x1) + x2), (w2 (w2 (w2 (w2 y4 25 ((((8 : Int32) * x1) + x2)).toNatClampNeg (y4 11 7)) 26 ((((8 : Int32) * x1) + x2)).toNatClampNeg ((w2 y4 25 ((((8 : Int32) * x1) + x2)).toNatClampNeg (y4 11 7)) 11 8)) 27 ((((8 : Int32) * x1) + x2)).toNatClampNeg ((w2 (w2 y4 25 ((((8 : Int32) * x1) + x2)).toNatClampNeg (y4 11 7)) 26 ((((8 : Int32) * x1) + x2)).toNatClampNeg ((w2 y4 25 ((((8 : Int32) * x1) + x2)).toNatClampNeg (y4 11 7)) 11 8)) 11 9)) 28 ((((8 : Int32) * x1) + x2)).toNatClampNeg ((w2 (w2 (w2 y4 25 ((((8 : Int32) * x1) + x2)).toNatClampNeg (y4 11 7)) 26 ((((8 : Int32) * x1) + x2)).toNatClampNeg ((w2 y4 25 ((((8 : Int32) * x1) + x2)).toNatClampNeg (y4 11 7)) 11 8)) 27 ((((8 : Int32) * x1) + x2)).toNatClampNeg ((w2 (w2 y4 25 ((((8 : Int32) * x1) + x2)).toNatClampNeg (y4 11 7)) 26 ((((8 : Int32) * x1) + x2)).toNatClampNeg ((w2 y4 25 ((((8 : Int32) * x1) + x2)).toNatClampNeg (y4 11 7)) 11 8)) 11 9)) 1 6)))
                  else none
                else none
              else none
            else none
  else none
/-! BoxSpider.shortest, method 46 -/
def f_Box_shortest (sg : Hp) (x1 : Int32) (x2 : Int32) : Option (Int32 × Hp) :=
  (f_Box_isPlace sg x1).bind fun y1 =>
    if y1.1 = (0 : Int32) then
      some ((-2 : Int32), y1.2)
    else
      (f_Box_isPlace y1.2 x2).bind fun y2 =>
        if y2.1 = (0 : Int32) then
          some ((-2 : Int32), y2.2)
        else
          (f_Table_look y2.2 x1 x2).bind fun y3 =>
            if inb y3.1 64 = true then
              some ((y3.2 25 (y3.1).toNatClampNeg), y3.2)
            else none
/-! BoxSpiderModel.standsOn, method 146 -/
def f_Mod_standsOn_75 (k60 : Hp → Int32 → Int32 → Int32 → Option (Hp)) : Nat → Hp → Int32 → Int32 → Int32 → Int32 → Option (Hp)
  | 0, _, _, _, _, _ => none
  | n + 1, sg, x2, x3, x4, x5 =>
    if (14 : Int32) ≤ x5 then
      k60 sg x2 x3 (x4 + (1 : Int32))
    else
      if inb ((14 : Int32) + x5) 560 = true then
        if inb x5 560 = true then
          f_Mod_standsOn_75 k60 n (w2 sg 55 (x5).toNatClampNeg (sg 55 (((14 : Int32) + x5)).toNatClampNeg)) x2 x3 x4 (x5 + (1 : Int32))
        else none
      else none
def f_Mod_standsOn_60  : Nat → Hp → Int32 → Int32 → Int32 → Option (Hp)
  | 0, _, _, _, _ => none
  | n + 1, sg, x2, x3, x4 =>
    if x3 ≤ x4 then
      some sg
    else
      (f_Mod_turns sg (0 : Int32) x2).bind fun y2 =>
        f_Mod_standsOn_75 (f_Mod_standsOn_60 n) LF y2 x2 x3 x4 (0 : Int32)
def f_Mod_standsOn_56  (sg : Hp) (x2 : Int32) (xs0 : Int32) : Option (Hp) :=
  f_Mod_standsOn_60  LF sg x2 xs0 (0 : Int32)
def f_Mod_standsOn_37  (sg : Hp) (x1 : Int32) (xs0 : Int32) : Option (Hp) :=
  if x1 = (0 : Int32) then
    f_Mod_standsOn_56  sg xs0 (0 : Int32)
  else
    if x1 = (1 : Int32) then
      f_Mod_standsOn_56  sg xs0 (2 : Int32)
    else
      f_Mod_standsOn_56  sg xs0 (1 : Int32)
def f_Mod_standsOn_14  (sg : Hp) (x1 : Int32) : Option (Hp) :=
  f_Mod_standsOn_37  sg x1 (0 : Int32)
def f_Mod_standsOn (sg : Hp) (x1 : Int32) : Option (Hp) :=
  (f_Mod_begins sg ).bind fun y1 =>
    if x1 = (3 : Int32) then
      f_Mod_standsOn_14  y1 x1
    else
      if x1 = (1 : Int32) then
        f_Mod_standsOn_14  y1 x1
      else
        if x1 = (2 : Int32) then
          f_Mod_standsOn_37  y1 x1 (1 : Int32)
        else
          if x1 = (5 : Int32) then
            f_Mod_standsOn_37  y1 x1 (2 : Int32)
          else
            f_Mod_standsOn_37  y1 x1 (3 : Int32)
/-! BoxSpiderModel.isIn, method 148 -/
def f_Mod_isIn (sg : Hp) (x0 : Int32) (x1 : Int32) : Option (Int32 × Hp) :=
  if ((x0 >>> (x1 &&& 31)) &&& (1 : Int32)) = (1 : Int32) then
    some ((1 : Int32), sg)
  else
    some ((0 : Int32), sg)
/-! BoxSpiderModel.lesser, method 150 -/
def f_Mod_lesser (sg : Hp) (x0 : Int32) (x1 : Int32) : Option (Int32 × Hp) :=
  if x1 ≤ x0 then
    some (x1, sg)
  else
    some (x0, sg)
/-! BoxSpiderModel.greater, method 151 -/
def f_Mod_greater (sg : Hp) (x0 : Int32) (x1 : Int32) : Option (Int32 × Hp) :=
  if x0 ≤ x1 then
    some (x1, sg)
  else
    some (x0, sg)
/-! BoxSpiderModel.meets, method 149 -/
def f_Mod_meets_193  (sg : Hp) (x7 : Int32) (x8 : Int32) (x9 : Int32) (x10 : Int32) (x11 : Int32) (x12 : Int32) (x13 : Int32) (xs0 : Int32) : Option (Int32 × Hp) :=
  (f_Mod_in sg (((x12 * (xs0 * (x11 - x10))) + ((xs0 * (x13 - x12)) * (x7 - x10)))).toInt64 ((x8 * (xs0 * (x11 - x10)))).toInt64 ((x9 * (xs0 * (x11 - x10)))).toInt64).bind fun y8 =>
    if y8.1 = 0 ∨ y8.1 = 1 then some (y8.1, y8.2) else none
def f_Mod_meets_105  (sg : Hp) (x7 : Int32) (x8 : Int32) (x9 : Int32) (x10 : Int32) (x11 : Int32) (x12 : Int32) (xs0 : Int32) : Option (Int32 × Hp) :=
  if x10 = x11 then
    if x10 = x7 then
      (f_Mod_lesser sg x12 xs0).bind fun y9 =>
        (f_Mod_greater y9.2 y9.1 x8).bind fun y10 =>
          (f_Mod_greater y10.2 x12 xs0).bind fun y11 =>
            (f_Mod_lesser y11.2 y11.1 x9).bind fun y12 =>
              if y12.1 < y10.1 then
                some ((0 : Int32), y12.2)
              else
                some ((1 : Int32), y12.2)
    else
      some ((0 : Int32), sg)
  else
    (f_Mod_lesser sg x10 x11).bind fun y5 =>
      (f_Mod_greater y5.2 x10 x11).bind fun y6 =>
        (f_Mod_in y6.2 (x7).toInt64 (y5.1).toInt64 (y6.1).toInt64).bind fun y7 =>
          if y7.1 = (0 : Int32) then
            some ((0 : Int32), y7.2)
          else
            if x11 ≤ x10 then
              f_Mod_meets_193  y7.2 x7 x8 x9 x10 x11 x12 xs0 (-1 : Int32)
            else
              f_Mod_meets_193  y7.2 x7 x8 x9 x10 x11 x12 xs0 (1 : Int32)
def f_Mod_meets_91  (sg : Hp) (x4 : Int32) (x5 : Int32) (x6 : Int32) (x7 : Int32) (x8 : Int32) (x9 : Int32) (x10 : Int32) (x11 : Int32) (xs0 : Int32) : Option (Int32 × Hp) :=
  if x6 = (0 : Int32) then
    f_Mod_meets_105  sg x7 x8 x9 x10 x11 xs0 x4
  else
    f_Mod_meets_105  sg x7 x8 x9 x10 x11 xs0 x5
def f_Mod_meets_79  (sg : Hp) (x2 : Int32) (x3 : Int32) (x4 : Int32) (x5 : Int32) (x6 : Int32) (x7 : Int32) (x8 : Int32) (x9 : Int32) (x10 : Int32) (xs0 : Int32) : Option (Int32 × Hp) :=
  if x6 = (0 : Int32) then
    f_Mod_meets_91  sg x4 x5 x6 x7 x8 x9 x10 xs0 x2
  else
    f_Mod_meets_91  sg x4 x5 x6 x7 x8 x9 x10 xs0 x3
def f_Mod_meets_65  (sg : Hp) (x2 : Int32) (x3 : Int32) (x4 : Int32) (x5 : Int32) (x6 : Int32) (x7 : Int32) (x8 : Int32) (x9 : Int32) (xs0 : Int32) : Option (Int32 × Hp) :=
  if x6 = (0 : Int32) then
    f_Mod_meets_79  sg x2 x3 x4 x5 x6 x7 x8 x9 xs0 x5
  else
    f_Mod_meets_79  sg x2 x3 x4 x5 x6 x7 x8 x9 xs0 x4
def f_Mod_meets_17  (sg : Hp) (x1 : Int32) (x2 : Int32) (x3 : Int32) (x4 : Int32) (x5 : Int32) (xs0 : Int32) : Option (Int32 × Hp) :=
  if inb (((4 : Int32) * x1) + (1 : Int32)) 160 = true then
    if inb (((4 : Int32) * x1) + (2 : Int32)) 160 = true then
      if inb (((4 : Int32) * x1) + (3 : Int32)) 160 = true then
        if xs0 = (0 : Int32) then
          f_Mod_meets_65  sg x2 x3 x4 x5 xs0 (sg 56 ((((4 : Int32) * x1) + (1 : Int32))).toNatClampNeg) (sg 56 ((((4 : Int32) * x1) + (2 : Int32))).toNatClampNeg) (sg 56 ((((4 : Int32) * x1) + (3 : Int32))).toNatClampNeg) x3
        else
          f_Mod_meets_65  sg x2 x3 x4 x5 xs0 (sg 56 ((((4 : Int32) * x1) + (1 : Int32))).toNatClampNeg) (sg 56 ((((4 : Int32) * x1) + (2 : Int32))).toNatClampNeg) (sg 56 ((((4 : Int32) * x1) + (3 : Int32))).toNatClampNeg) x2
      else none
    else none
  else none
def f_Mod_meets (sg : Hp) (x1 : Int32) (x2 : Int32) (x3 : Int32) (x4 : Int32) (x5 : Int32) : Option (Int32 × Hp) :=
  if inb ((4 : Int32) * x1) 160 = true then
    if (sg 56 (((4 : Int32) * x1)).toNatClampNeg) = (1 : Int32) then
      f_Mod_meets_17  sg x1 x2 x3 x4 x5 (1 : Int32)
    else
      f_Mod_meets_17  sg x1 x2 x3 x4 x5 (0 : Int32)
  else none
/-! BoxSpiderModel.lineOf, method 147 -/
def f_Mod_lineOf_107 (k44 : Hp → Int32 → Int32 → Int32 → Int32 → Int32 → Int32 → Int32 → Option (Int32 × Hp)) (sg : Hp) (x4 : Int32) (x5 : Int32) (x6 : Int32) (x7 : Int32) (x8 : Int32) (x10 : Int32) (xs0 : Int32) : Option (Int32 × Hp) :=
  k44 sg x4 x5 x6 x7 x8 xs0 (x10 + (1 : Int32))
def f_Mod_lineOf_106 (k44 : Hp → Int32 → Int32 → Int32 → Int32 → Int32 → Int32 → Int32 → Option (Int32 × Hp)) (sg : Hp) (x4 : Int32) (x5 : Int32) (x6 : Int32) (x7 : Int32) (x8 : Int32) (x10 : Int32) : Option (Int32 × Hp) :=
  f_Mod_lineOf_107 k44 sg x4 x5 x6 x7 x8 x10 (0 : Int32)
def f_Mod_lineOf_44  : Nat → Hp → Int32 → Int32 → Int32 → Int32 → Int32 → Int32 → Int32 → Option (Int32 × Hp)
  | 0, _, _, _, _, _, _, _, _ => none
  | n + 1, sg, x4, x5, x6, x7, x8, x9, x10 =>
    if x4 ≤ x10 then
      if x9 = (0 : Int32) then
        some ((-1 : Int32), sg)
      else
        some ((((x7 - x5) * (x7 - x5)) + ((x8 - x6) * (x8 - x6))), sg)
    else
      (f_Mod_faceAt sg x10).bind fun y5 =>
        if inb y5.1 6 = true then
          (f_Mod_faceAt y5.2 (x10 + (1 : Int32))).bind fun y7 =>
            (f_Mod_isIn y7.2 (y5.2 53 (y5.1).toNatClampNeg) y7.1).bind fun y8 =>
              if x9 = (0 : Int32) then
                f_Mod_lineOf_106 (f_Mod_lineOf_44 n) y8.2 x4 x5 x6 x7 x8 x10
              else
                if y8.1 = (0 : Int32) then
                  (f_Mod_meets y8.2 x10 x5 x6 x7 x8).bind fun y9 =>
                    if y9.1 = (0 : Int32) then
                      f_Mod_lineOf_106 (f_Mod_lineOf_44 n) y9.2 x4 x5 x6 x7 x8 x10
                    else
                      f_Mod_lineOf_107 (f_Mod_lineOf_44 n) y9.2 x4 x5 x6 x7 x8 x10 (1 : Int32)
                else
                  f_Mod_lineOf_106 (f_Mod_lineOf_44 n) y8.2 x4 x5 x6 x7 x8 x10
        else none
def f_Mod_lineOf (sg : Hp) (x1 : Int32) (x2 : Int32) (x3 : Int32) (x4 : Int32) : Option (Int32 × Hp) :=
  (f_Mod_liesAt sg x1 x2 (0 : Int32)).bind fun y1 =>
    (f_Mod_liesAt y1.2 x1 x2 (1 : Int32)).bind fun y2 =>
      (f_Mod_liesAt y2.2 x3 x4 (0 : Int32)).bind fun y3 =>
        (f_Mod_liesAt y3.2 x3 x4 (1 : Int32)).bind fun y4 =>
          f_Mod_lineOf_44  LF y4.2 x4 y1.1 y2.1 y3.1 y4.1 (1 : Int32) x2
/-! BoxSpiderModel.isAhead, method 153 -/
def f_Mod_isAhead_69  (sg : Hp) (x3 : Int32) : Option (Int32 × Hp) :=
  if inb x3 5 = true then
    if inb x3 5 = true then
      if (sg 57 (x3).toNatClampNeg) ≤ (sg 58 (x3).toNatClampNeg) then
        some ((0 : Int32), sg)
      else
        some ((1 : Int32), sg)
    else none
  else none
def f_Mod_isAhead_41  : Nat → Hp → Int32 → Int32 → Option (Int32 × Hp)
  | 0, _, _, _ => none
  | n + 1, sg, x1, x3 =>
    if (x1 - (1 : Int32)) ≤ x3 then
      f_Mod_isAhead_69  sg x3
    else
      if inb x3 5 = true then
        if inb x3 5 = true then
          if (sg 58 (x3).toNatClampNeg) = (sg 57 (x3).toNatClampNeg) then
            f_Mod_isAhead_41 n sg x1 (x3 + (1 : Int32))
          else
            f_Mod_isAhead_69  sg x3
        else none
      else none
def f_Mod_isAhead_23  (sg : Hp) (x1 : Int32) (x2 : Int32) : Option (Int32 × Hp) :=
  if x1 = x2 then
    f_Mod_isAhead_41  LF sg x1 (0 : Int32)
  else
    if x2 ≤ x1 then
      some ((0 : Int32), sg)
    else
      some ((1 : Int32), sg)
def f_Mod_isAhead_2  : Nat → Hp → Int32 → Int32 → Option (Int32 × Hp)
  | 0, _, _, _ => none
  | n + 1, sg, x1, x2 =>
    if (5 : Int32) ≤ x2 then
      f_Mod_isAhead_23  sg x1 x2
    else
      if inb x2 5 = true then
        if (sg 57 (x2).toNatClampNeg) = (-1 : Int32) then
          f_Mod_isAhead_23  sg x1 x2
        else
          f_Mod_isAhead_2 n sg x1 (x2 + (1 : Int32))
      else none
def f_Mod_isAhead (sg : Hp) (x1 : Int32) : Option (Int32 × Hp) :=
  f_Mod_isAhead_2  LF sg x1 (0 : Int32)
/-! BoxSpiderModel.keeps, method 152 -/
def f_Mod_keeps_113  (sg : Hp) (x1 : Int32) : Option (Hp) :=
  some (w2 sg 46 12 x1)
def f_Mod_keeps_106 (k77 : Hp → Int32 → Int32 → Int32 → Option (Hp)) (sg : Hp) (x1 : Int32) (x2 : Int32) (x4 : Int32) (xs1 : Int32) (xs2 : Int32) : Option (Hp) :=
  if inb xs1 5 = true then
    k77 (w2 sg 57 (xs1).toNatClampNeg xs2) x1 x2 (x4 + (1 : Int32))
  else none
def f_Mod_keeps_77  : Nat → Hp → Int32 → Int32 → Int32 → Option (Hp)
  | 0, _, _, _, _ => none
  | n + 1, sg, x1, x2, x4 =>
    if (5 : Int32) ≤ x4 then
      f_Mod_keeps_113  sg x1
    else
      if x2 ≤ x4 then
        f_Mod_keeps_106 (f_Mod_keeps_77 n) sg x1 x2 x4 x4 (-1 : Int32)
      else
        if inb x4 5 = true then
          f_Mod_keeps_106 (f_Mod_keeps_77 n) sg x1 x2 x4 x4 (sg 58 (x4).toNatClampNeg)
        else none
def f_Mod_keeps_74  (sg : Hp) (x1 : Int32) (x2 : Int32) : Option (Hp) :=
  f_Mod_keeps_77  LF sg x1 x2 (0 : Int32)
def f_Mod_keeps_59  (sg : Hp) (x1 : Int32) (x2 : Int32) (x3 : Int32) (xs1 : Int32) : Option (Hp) :=
  if x3 = (0 : Int32) then
    (f_Mod_isAhead (w2 sg 46 13 xs1) x2).bind fun y3 =>
      if y3.1 = (0 : Int32) then
        f_Mod_keeps_113  y3.2 x1
      else
        f_Mod_keeps_74  y3.2 x1 x2
  else
    f_Mod_keeps_74  (w2 sg 46 13 xs1) x1 x2
def f_Mod_keeps_43  (sg : Hp) (x1 : Int32) (x2 : Int32) (xs0 : Int32) : Option (Hp) :=
  if xs0 = (0 : Int32) then
    f_Mod_keeps_59  sg x1 x2 xs0 ((sg 46 13) + (1 : Int32))
  else
    f_Mod_keeps_59  sg x1 x2 xs0 (1 : Int32)
def f_Mod_keeps_38  (sg : Hp) (x1 : Int32) (x2 : Int32) : Option (Hp) :=
  f_Mod_keeps_43  sg x1 x2 (1 : Int32)
def f_Mod_keeps_22  (sg : Hp) (x1 : Int32) (x2 : Int32) : Option (Hp) :=
  if (sg 46 12) = (-1 : Int32) then
    f_Mod_keeps_38  sg x1 x2
  else
    if (sg 46 12) ≤ x1 then
      f_Mod_keeps_43  sg x1 x2 (0 : Int32)
    else
      f_Mod_keeps_38  sg x1 x2
def f_Mod_keeps (sg : Hp) (x1 : Int32) (x2 : Int32) : Option (Hp) :=
  if x1 = (-1 : Int32) then
    some sg
  else
    if (sg 46 12) = (-1 : Int32) then
      f_Mod_keeps_22  sg x1 x2
    else
      if x1 ≤ (sg 46 12) then
        f_Mod_keeps_22  sg x1 x2
      else
        some sg
/-! BoxSpiderModel.isNew, method 154 -/
def f_Mod_isNew_32 (k4 : Hp → Int32 → Int32 → Int32 → Option (Int32 × Hp)) (sg : Hp) (x1 : Int32) (x3 : Int32) (xs0 : Int32) : Option (Int32 × Hp) :=
  k4 sg x1 xs0 (x3 + (1 : Int32))
def f_Mod_isNew_31 (k4 : Hp → Int32 → Int32 → Int32 → Option (Int32 × Hp)) (sg : Hp) (x1 : Int32) (x3 : Int32) : Option (Int32 × Hp) :=
  f_Mod_isNew_32 k4 sg x1 x3 (0 : Int32)
def f_Mod_isNew_4  : Nat → Hp → Int32 → Int32 → Int32 → Option (Int32 × Hp)
  | 0, _, _, _, _ => none
  | n + 1, sg, x1, x2, x3 =>
    if x1 ≤ x3 then
      if x2 = 0 ∨ x2 = 1 then some (x2, sg) else none
    else
      if x2 = (0 : Int32) then
        f_Mod_isNew_31 (f_Mod_isNew_4 n) sg x1 x3
      else
        if inb x3 5 = true then
          (f_Mod_faceAt sg x1).bind fun y2 =>
            if (sg 58 (x3).toNatClampNeg) = y2.1 then
              f_Mod_isNew_31 (f_Mod_isNew_4 n) y2.2 x1 x3
            else
              f_Mod_isNew_32 (f_Mod_isNew_4 n) y2.2 x1 x3 (1 : Int32)
        else none
def f_Mod_isNew (sg : Hp) (x1 : Int32) : Option (Int32 × Hp) :=
  f_Mod_isNew_4  LF sg x1 (1 : Int32) (0 : Int32)
/-! BoxSpiderModel.findFrom, method 145 -/
def f_Mod_findFrom_77 (k44 : Hp → Int32 → Int32 → Int32 → Option (Hp)) (sg : Hp) (x2 : Int32) (x3 : Int32) (x4 : Int32) : Option (Hp) :=
  k44 sg x2 x3 (x4 + (-1 : Int32))
def f_Mod_findFrom_44  : Nat → Hp → Int32 → Int32 → Int32 → Option (Hp)
  | 0, _, _, _, _ => none
  | n + 1, sg, x2, x3, x4 =>
    if x4 < (0 : Int32) then
      some sg
    else
      if inb x4 6 = true then
        if inb x4 6 = true then
          if inb x4 6 = true then
            if ((w2 sg 59 (x4).toNatClampNeg ((sg 59 (x4).toNatClampNeg) + (1 : Int32))) 59 (x4).toNatClampNeg) = (4 : Int32) then
              f_Mod_findFrom_77 (f_Mod_findFrom_44 n) (w2 sg 59 (x4).toNatClampNeg ((sg 59 (x4).toNatClampNeg) + (1 : Int32))) x2 x3 x4
            else
              if x4 = (4 : Int32) then
                f_Mod_findFrom_77 (f_Mod_findFrom_44 n) (w2 sg 59 (x4).toNatClampNeg ((sg 59 (x4).toNatClampNeg) + (1 : Int32))) x2 x3 x4
              else
                if inb x4 6 = true then
                  (f_Mod_turns (w2 sg 59 (x4).toNatClampNeg ((sg 59 (x4).toNatClampNeg) + (1 : Int32))) x4 ((w2 sg 59 (x4).toNatClampNeg ((sg 59 (x4).toNatClampNeg) + (1 : Int32))) 59 (x4).toNatClampNeg)).bind fun y7 =>
                    (f_Mod_isNew y7 (x4 + (1 : Int32))).bind fun y8 =>
                      if y8.1 = (0 : Int32) then
                        f_Mod_findFrom_44 n y8.2 x2 x3 x4
                      else
                        (f_Mod_faceAt y8.2 (x4 + (1 : Int32))).bind fun y9 =>
                          if inb (x4 + (1 : Int32)) 5 = true then
                            if inb (x4 + (1 : Int32)) 6 = true then
                              if inb (x4 + (1 : Int32)) 5 = true then
                                (f_Mod_isOn (w2 (w2 y9.2 58 ((x4 + (1 : Int32))).toNatClampNeg y9.1) 59 ((x4 + (1 : Int32))).toNatClampNeg (-1 : Int32)) ((w2 (w2 y9.2 58 ((x4 + (1 : Int32))).toNatClampNeg y9.1) 59 ((x4 + (1 : Int32))).toNatClampNeg (-1 : Int32)) 58 ((x4 + (1 : Int32))).toNatClampNeg) x3).bind fun y13 =>
                                  if y13.1 = (0 : Int32) then
                                    f_Mod_findFrom_44 n y13.2 x2 x3 (x4 + (1 : Int32))
                                  else
                                    (f_Mod_lineOf y13.2 x2 (0 : Int32) x3 (x4 + (1 : Int32))).bind fun y14 =>
                                      (f_Mod_keeps y14.2 y14.1 ((x4 + (1 : Int32)) + (1 : Int32))).bind fun y15 =>
                                        f_Mod_findFrom_44 n y15 x2 x3 (x4 + (1 : Int32))
                              else none
                            else none
                          else none
                else none
          else none
        else none
      else none
def f_Mod_findFrom (sg : Hp) (x1 : Int32) (x2 : Int32) (x3 : Int32) : Option (Hp) :=
  (f_Mod_standsOn sg x1).bind fun y1 =>
    (f_Mod_isOn (w2 (w2 y1 58 0 x1) 59 0 (-1 : Int32)) x1 x3).bind fun y2 =>
      if y2.1 = (0 : Int32) then
        f_Mod_findFrom_44  LF y2.2 x2 x3 (0 : Int32)
      else
        (f_Mod_lineOf y2.2 x2 (0 : Int32) x3 (0 : Int32)).bind fun y16 =>
          (f_Mod_keeps y16.2 y16.1 (1 : Int32)).bind fun y17 =>
            f_Mod_findFrom_44  LF y17 x2 x3 (0 : Int32)
/-! BoxSpiderModel.shortestOf, method 144 -/
def f_Mod_shortestOf_54 (k32 : Hp → Int32 → Int32 → Int32 → Option (Int32 × Hp)) (sg : Hp) (x1 : Int32) (x2 : Int32) (x3 : Int32) : Option (Int32 × Hp) :=
  k32 sg x1 x2 (x3 + (1 : Int32))
def f_Mod_shortestOf_32  : Nat → Hp → Int32 → Int32 → Int32 → Option (Int32 × Hp)
  | 0, _, _, _, _ => none
  | n + 1, sg, x1, x2, x3 =>
    if (6 : Int32) ≤ x3 then
      some ((sg 46 12), sg)
    else
      (f_Mod_isOn sg x3 x1).bind fun y1 =>
        if y1.1 = (0 : Int32) then
          f_Mod_shortestOf_54 (f_Mod_shortestOf_32 n) y1.2 x1 x2 x3
        else
          (f_Mod_findFrom y1.2 x3 x1 x2).bind fun y2 =>
            f_Mod_shortestOf_54 (f_Mod_shortestOf_32 n) y2 x1 x2 x3
def f_Mod_shortestOf_12  : Nat → Hp → Int32 → Int32 → Int32 → Option (Int32 × Hp)
  | 0, _, _, _, _ => none
  | n + 1, sg, x1, x2, x3 =>
    if (5 : Int32) ≤ x3 then
      f_Mod_shortestOf_32  LF sg x1 x2 (0 : Int32)
    else
      if inb x3 5 = true then
        f_Mod_shortestOf_12 n (w2 sg 57 (x3).toNatClampNeg (-1 : Int32)) x1 x2 (x3 + (1 : Int32))
      else none
def f_Mod_shortestOf (sg : Hp) (x1 : Int32) (x2 : Int32) : Option (Int32 × Hp) :=
  f_Mod_shortestOf_12  LF (w2 (w2 sg 46 12 (-1 : Int32)) 46 13 (0 : Int32)) x1 x2 (0 : Int32)
/-! BoxSpiderModel.shortest, method 143 -/
def f_Mod_shortest (sg : Hp) (x1 : Int32) (x2 : Int32) : Option (Int32 × Hp) :=
  (f_Mod_isPlace sg x1).bind fun y1 =>
    if y1.1 = (0 : Int32) then
      some ((-2 : Int32), y1.2)
    else
      (f_Mod_isPlace y1.2 x2).bind fun y2 =>
        if y2.1 = (0 : Int32) then
          some ((-2 : Int32), y2.2)
        else
          (f_Mod_shortestOf y2.2 x1 x2).bind fun y3 =>
            some (y3.1, y3.2)
/-! BoxSpider.ways, method 58 -/
def f_Box_ways (sg : Hp) (x1 : Int32) (x2 : Int32) : Option (Int32 × Hp) :=
  (f_Box_isPlace sg x1).bind fun y1 =>
    if y1.1 = (0 : Int32) then
      some ((-2 : Int32), y1.2)
    else
      (f_Box_isPlace y1.2 x2).bind fun y2 =>
        if y2.1 = (0 : Int32) then
          some ((-2 : Int32), y2.2)
        else
          (f_Table_look y2.2 x1 x2).bind fun y3 =>
            if inb y3.1 64 = true then
              some ((y3.2 26 (y3.1).toNatClampNeg), y3.2)
            else none
/-! BoxSpiderModel.waysOf, method 156 -/
def f_Mod_waysOf (sg : Hp) (x1 : Int32) (x2 : Int32) : Option (Int32 × Hp) :=
  (f_Mod_shortestOf sg x1 x2).bind fun y1 =>
    some ((y1.2 46 13), y1.2)
/-! BoxSpiderModel.ways, method 155 -/
def f_Mod_ways (sg : Hp) (x1 : Int32) (x2 : Int32) : Option (Int32 × Hp) :=
  (f_Mod_isPlace sg x1).bind fun y1 =>
    if y1.1 = (0 : Int32) then
      some ((-2 : Int32), y1.2)
    else
      (f_Mod_isPlace y1.2 x2).bind fun y2 =>
        if y2.1 = (0 : Int32) then
          some ((-2 : Int32), y2.2)
        else
          (f_Mod_waysOf y2.2 x1 x2).bind fun y3 =>
            some (y3.1, y3.2)
/-! BoxSpider$Search.wallInRow, method 60 -/
def f_Search_wallInRow (sg : Hp) (x0 : Int32) (x1 : Int32) : Option (Int32 × Hp) :=
  some ((((x0 >>> (((3 : Int32) * x1) &&& 31)) &&& (7 : Int32)) - (1 : Int32)), sg)
/-! BoxSpider.face, method 59 -/
def f_Box_face (sg : Hp) (x1 : Int32) (x2 : Int32) (x3 : Int32) : Option (Int32 × Hp) :=
  (f_Box_isPlace sg x1).bind fun y1 =>
    if y1.1 = (0 : Int32) then
      some ((-2 : Int32), y1.2)
    else
      (f_Box_isPlace y1.2 x2).bind fun y2 =>
        if y2.1 = (0 : Int32) then
          some ((-2 : Int32), y2.2)
        else
          if x3 < (0 : Int32) then
            some ((-2 : Int32), y2.2)
          else
            if x3 < (5 : Int32) then
              (f_Table_look y2.2 x1 x2).bind fun y3 =>
                if inb y3.1 64 = true then
                  (f_Search_wallInRow y3.2 (y3.2 27 (y3.1).toNatClampNeg) x3).bind fun y5 =>
                    some (y5.1, y5.2)
                else none
            else
              some ((-2 : Int32), y2.2)
/-! BoxSpiderModel.faceOf, method 158 -/
def f_Mod_faceOf (sg : Hp) (x1 : Int32) (x2 : Int32) (x3 : Int32) : Option (Int32 × Hp) :=
  (f_Mod_shortestOf sg x1 x2).bind fun y1 =>
    if inb x3 5 = true then
      some ((y1.2 57 (x3).toNatClampNeg), y1.2)
    else none
/-! BoxSpiderModel.face, method 157 -/
def f_Mod_face (sg : Hp) (x1 : Int32) (x2 : Int32) (x3 : Int32) : Option (Int32 × Hp) :=
  (f_Mod_isPlace sg x1).bind fun y1 =>
    if y1.1 = (0 : Int32) then
      some ((-2 : Int32), y1.2)
    else
      (f_Mod_isPlace y1.2 x2).bind fun y2 =>
        if y2.1 = (0 : Int32) then
          some ((-2 : Int32), y2.2)
        else
          (f_Mod_in y2.2 (x3).toInt64 (0 : Int64) (4 : Int64)).bind fun y3 =>
            if y3.1 = (0 : Int32) then
              some ((-2 : Int32), y3.2)
            else
              (f_Mod_faceOf y3.2 x1 x2 x3).bind fun y4 =>
                some (y4.1, y4.2)
/-! BoxSpider.farthest, method 61 -/
def f_Box_farthest_56 (k17 : Hp → Int32 → Int32 → Int32 → Int32 → Option (Int32 × Hp)) (sg : Hp) (x1 : Int32) (x2 : Int32) (x3 : Int32) (x4 : Int32) : Option (Int32 × Hp) :=
  k17 sg x1 x2 x3 (x4 + (1 : Int32))
def f_Box_farthest_17  : Nat → Hp → Int32 → Int32 → Int32 → Int32 → Option (Int32 × Hp)
  | 0, _, _, _, _, _ => none
  | n + 1, sg, x1, x2, x3, x4 =>
    if (8 : Int32) ≤ x4 then
      some (x2, sg)
    else
      (f_Table_look sg x1 x4).bind fun y2 =>
        if inb y2.1 64 = true then
          if (y2.2 25 (y2.1).toNatClampNeg) ≤ x3 then
            f_Box_farthest_56 (f_Box_farthest_17 n) y2.2 x1 x2 x3 x4
          else
            f_Box_farthest_56 (f_Box_farthest_17 n) y2.2 x1 x4 (y2.2 25 (y2.1).toNatClampNeg) x4
        else none
def f_Box_farthest (sg : Hp) (x1 : Int32) : Option (Int32 × Hp) :=
  (f_Box_isPlace sg x1).bind fun y1 =>
    if y1.1 = (0 : Int32) then
      some ((-2 : Int32), y1.2)
    else
      f_Box_farthest_17  LF y1.2 x1 (-1 : Int32) (-1 : Int32) (0 : Int32)
/-! BoxSpiderModel.farthestOf, method 160 -/
def f_Mod_farthestOf_35 (k7 : Hp → Int32 → Int32 → Int32 → Int32 → Option (Int32 × Hp)) (sg : Hp) (x1 : Int32) (x3 : Int32) (x4 : Int32) (x5 : Int32) (xs0 : Int32) : Option (Int32 × Hp) :=
  (f_Mod_greater sg x5 x3).bind fun y2 =>
    k7 y2.2 x1 xs0 y2.1 (x4 + (1 : Int32))
def f_Mod_farthestOf_7  : Nat → Hp → Int32 → Int32 → Int32 → Int32 → Option (Int32 × Hp)
  | 0, _, _, _, _, _ => none
  | n + 1, sg, x1, x2, x3, x4 =>
    if (8 : Int32) ≤ x4 then
      some (x2, sg)
    else
      (f_Mod_shortestOf sg x1 x4).bind fun y1 =>
        if y1.1 ≤ x3 then
          f_Mod_farthestOf_35 (f_Mod_farthestOf_7 n) y1.2 x1 x3 x4 y1.1 x2
        else
          f_Mod_farthestOf_35 (f_Mod_farthestOf_7 n) y1.2 x1 x3 x4 y1.1 x4
def f_Mod_farthestOf (sg : Hp) (x1 : Int32) : Option (Int32 × Hp) :=
  f_Mod_farthestOf_7  LF sg x1 x1 (-1 : Int32) (0 : Int32)
/-! BoxSpiderModel.farthest, method 159 -/
def f_Mod_farthest (sg : Hp) (x1 : Int32) : Option (Int32 × Hp) :=
  (f_Mod_isPlace sg x1).bind fun y1 =>
    if y1.1 = (0 : Int32) then
      some ((-2 : Int32), y1.2)
    else
      (f_Mod_farthestOf y1.2 x1).bind fun y2 =>
        some (y2.1, y2.2)
/-! BoxSpider.reachOf, method 63 -/
def f_Box_reachOf_4  : Nat → Hp → Int32 → Int32 → Int32 → Option (Int32 × Hp)
  | 0, _, _, _, _ => none
  | n + 1, sg, x1, x2, x3 =>
    if (8 : Int32) ≤ x3 then
      some (x2, sg)
    else
      (f_Table_look sg x1 x3).bind fun y1 =>
        if inb y1.1 64 = true then
          if (y1.2 25 (y1.1).toNatClampNeg) = (-1 : Int32) then
            some ((-1 : Int32), y1.2)
          else
            f_Box_reachOf_4 n y1.2 x1 (if x2 < (y1.2 25 (y1.1).toNatClampNeg) then (y1.2 25 (y1.1).toNatClampNeg) else x2) (x3 + (1 : Int32))
        else none
def f_Box_reachOf (sg : Hp) (x1 : Int32) : Option (Int32 × Hp) :=
  f_Box_reachOf_4  LF sg x1 (0 : Int32) (0 : Int32)
/-! BoxSpider.sit, method 62 -/
def f_Box_sit_41 (k6 : Hp → Int32 → Int32 → Int32 → Option (Int32 × Hp)) (sg : Hp) (x1 : Int32) (x2 : Int32) (x3 : Int32) : Option (Int32 × Hp) :=
  k6 sg x1 x2 (x3 + (1 : Int32))
def f_Box_sit_36 (k6 : Hp → Int32 → Int32 → Int32 → Option (Int32 × Hp)) (sg : Hp) (x3 : Int32) (x4 : Int32) : Option (Int32 × Hp) :=
  f_Box_sit_41 k6 sg x3 x4 x3
def f_Box_sit_6  : Nat → Hp → Int32 → Int32 → Int32 → Option (Int32 × Hp)
  | 0, _, _, _, _ => none
  | n + 1, sg, x1, x2, x3 =>
    if (8 : Int32) ≤ x3 then
      some (x1, sg)
    else
      (f_Box_reachOf sg x3).bind fun y1 =>
        if y1.1 = (-1 : Int32) then
          f_Box_sit_41 (f_Box_sit_6 n) y1.2 x1 x2 x3
        else
          if x1 = (-1 : Int32) then
            f_Box_sit_36 (f_Box_sit_6 n) y1.2 x3 y1.1
          else
            if x2 ≤ y1.1 then
              f_Box_sit_41 (f_Box_sit_6 n) y1.2 x1 x2 x3
            else
              f_Box_sit_36 (f_Box_sit_6 n) y1.2 x3 y1.1
def f_Box_sit (sg : Hp)  : Option (Int32 × Hp) :=
  f_Box_sit_6  LF sg (-1 : Int32) (-1 : Int32) (0 : Int32)
/-! BoxSpiderModel.sitNow, method 162 -/
def f_Mod_sitNow_91 (k6 : Hp → Int32 → Int32 → Int32 → Option (Int32 × Hp)) (sg : Hp) (x1 : Int32) (x2 : Int32) (x3 : Int32) : Option (Int32 × Hp) :=
  k6 sg x1 x2 (x3 + (1 : Int32))
def f_Mod_sitNow_86 (k6 : Hp → Int32 → Int32 → Int32 → Option (Int32 × Hp)) (sg : Hp) (x3 : Int32) (x4 : Int32) : Option (Int32 × Hp) :=
  f_Mod_sitNow_91 k6 sg x3 x4 x3
def f_Mod_sitNow_53 (k6 : Hp → Int32 → Int32 → Int32 → Option (Int32 × Hp)) (k21 : Hp → Int32 → Int32 → Int32 → Int32 → Int32 → Int32 → Option (Int32 × Hp)) (sg : Hp) (x1 : Int32) (x2 : Int32) (x3 : Int32) (x4 : Int32) (x6 : Int32) (x7 : Int32) (xs0 : Int32) : Option (Int32 × Hp) :=
  (f_Mod_greater sg x7 x4).bind fun y2 =>
    k21 y2.2 x1 x2 x3 y2.1 xs0 (x6 + (1 : Int32))
def f_Mod_sitNow_52 (k6 : Hp → Int32 → Int32 → Int32 → Option (Int32 × Hp)) (k21 : Hp → Int32 → Int32 → Int32 → Int32 → Int32 → Int32 → Option (Int32 × Hp)) (sg : Hp) (x1 : Int32) (x2 : Int32) (x3 : Int32) (x4 : Int32) (x6 : Int32) (x7 : Int32) : Option (Int32 × Hp) :=
  f_Mod_sitNow_53 k6 k21 sg x1 x2 x3 x4 x6 x7 (0 : Int32)
def f_Mod_sitNow_21 (k6 : Hp → Int32 → Int32 → Int32 → Option (Int32 × Hp)) : Nat → Hp → Int32 → Int32 → Int32 → Int32 → Int32 → Int32 → Option (Int32 × Hp)
  | 0, _, _, _, _, _, _, _ => none
  | n + 1, sg, x1, x2, x3, x4, x5, x6 =>
    if (8 : Int32) ≤ x6 then
      if x5 = (0 : Int32) then
        f_Mod_sitNow_91 k6 sg x1 x2 x3
      else
        if x1 = (-1 : Int32) then
          f_Mod_sitNow_86 k6 sg x3 x4
        else
          if x2 ≤ x4 then
            f_Mod_sitNow_91 k6 sg x1 x2 x3
          else
            f_Mod_sitNow_86 k6 sg x3 x4
    else
      (f_Mod_shortestOf sg x3 x6).bind fun y1 =>
        if x5 = (0 : Int32) then
          f_Mod_sitNow_52 k6 (f_Mod_sitNow_21 k6 n) y1.2 x1 x2 x3 x4 x6 y1.1
        else
          if y1.1 = (-1 : Int32) then
            f_Mod_sitNow_52 k6 (f_Mod_sitNow_21 k6 n) y1.2 x1 x2 x3 x4 x6 y1.1
          else
            f_Mod_sitNow_53 k6 (f_Mod_sitNow_21 k6 n) y1.2 x1 x2 x3 x4 x6 y1.1 (1 : Int32)
def f_Mod_sitNow_6  : Nat → Hp → Int32 → Int32 → Int32 → Option (Int32 × Hp)
  | 0, _, _, _, _ => none
  | n + 1, sg, x1, x2, x3 =>
    if (8 : Int32) ≤ x3 then
      some (x1, sg)
    else
      f_Mod_sitNow_21 (f_Mod_sitNow_6 n) LF sg x1 x2 x3 (0 : Int32) (1 : Int32) (0 : Int32)
def f_Mod_sitNow (sg : Hp)  : Option (Int32 × Hp) :=
  f_Mod_sitNow_6  LF sg (-1 : Int32) (0 : Int32) (0 : Int32)
/-! BoxSpiderModel.sit, method 161 -/
def f_Mod_sit (sg : Hp)  : Option (Int32 × Hp) :=
  (f_Mod_sitNow sg ).bind fun y1 =>
    some (y1.1, y1.2)
/-! BoxSpider.nearer, method 64 -/
def f_Box_nearer_100 (k27 : Hp → Int32 → Int32 → Int32 → Int32 → Option (Int32 × Hp)) (sg : Hp) (x1 : Int32) (x2 : Int32) (x3 : Int32) (x4 : Int32) : Option (Int32 × Hp) :=
  k27 sg x1 x2 x3 (x4 + (1 : Int32))
def f_Box_nearer_93 (k27 : Hp → Int32 → Int32 → Int32 → Int32 → Option (Int32 × Hp)) (sg : Hp) (x1 : Int32) (x2 : Int32) (x3 : Int32) (x4 : Int32) : Option (Int32 × Hp) :=
  f_Box_nearer_100 k27 sg x1 x2 (x3 ||| ((1 : Int32) <<< (x4 &&& 31))) x4
def f_Box_nearer_27  : Nat → Hp → Int32 → Int32 → Int32 → Int32 → Option (Int32 × Hp)
  | 0, _, _, _, _, _ => none
  | n + 1, sg, x1, x2, x3, x4 =>
    if (8 : Int32) ≤ x4 then
      some (x3, sg)
    else
      (f_Table_look sg x1 x4).bind fun y3 =>
        if inb y3.1 64 = true then
          (f_Table_look y3.2 x2 x4).bind fun y5 =>
            if inb y5.1 64 = true then
              if (y3.2 25 (y3.1).toNatClampNeg) = (-1 : Int32) then
                f_Box_nearer_100 (f_Box_nearer_27 n) y5.2 x1 x2 x3 x4
              else
                if (y5.2 25 (y5.1).toNatClampNeg) = (-1 : Int32) then
                  f_Box_nearer_93 (f_Box_nearer_27 n) y5.2 x1 x2 x3 x4
                else
                  if (y5.2 25 (y5.1).toNatClampNeg) ≤ (y3.2 25 (y3.1).toNatClampNeg) then
                    f_Box_nearer_100 (f_Box_nearer_27 n) y5.2 x1 x2 x3 x4
                  else
                    f_Box_nearer_93 (f_Box_nearer_27 n) y5.2 x1 x2 x3 x4
            else none
        else none
def f_Box_nearer (sg : Hp) (x1 : Int32) (x2 : Int32) : Option (Int32 × Hp) :=
  (f_Box_isPlace sg x1).bind fun y1 =>
    if y1.1 = (0 : Int32) then
      some ((-2 : Int32), y1.2)
    else
      (f_Box_isPlace y1.2 x2).bind fun y2 =>
        if y2.1 = (0 : Int32) then
          some ((-2 : Int32), y2.2)
        else
          if x1 = x2 then
            some ((-2 : Int32), y2.2)
          else
            f_Box_nearer_27  LF y2.2 x1 x2 (0 : Int32) (0 : Int32)
/-! BoxSpiderModel.nearerOf, method 164 -/
def f_Mod_nearerOf_58 (k5 : Hp → Int32 → Int32 → Int32 → Int32 → Option (Int32 × Hp)) (sg : Hp) (x1 : Int32) (x2 : Int32) (x4 : Int32) (xs0 : Int32) (xs1 : Int32) : Option (Int32 × Hp) :=
  k5 sg x1 x2 (xs0 ||| xs1) (x4 + (1 : Int32))
def f_Mod_nearerOf_57 (k5 : Hp → Int32 → Int32 → Int32 → Int32 → Option (Int32 × Hp)) (sg : Hp) (x1 : Int32) (x2 : Int32) (x4 : Int32) (xs0 : Int32) : Option (Int32 × Hp) :=
  f_Mod_nearerOf_58 k5 sg x1 x2 x4 xs0 (0 : Int32)
def f_Mod_nearerOf_50 (k5 : Hp → Int32 → Int32 → Int32 → Int32 → Option (Int32 × Hp)) (sg : Hp) (x1 : Int32) (x2 : Int32) (x4 : Int32) (xs0 : Int32) : Option (Int32 × Hp) :=
  f_Mod_nearerOf_58 k5 sg x1 x2 x4 xs0 ((1 : Int32) <<< (x4 &&& 31))
def f_Mod_nearerOf_5  : Nat → Hp → Int32 → Int32 → Int32 → Int32 → Option (Int32 × Hp)
  | 0, _, _, _, _, _ => none
  | n + 1, sg, x1, x2, x3, x4 =>
    if (8 : Int32) ≤ x4 then
      some (x3, sg)
    else
      (f_Mod_shortestOf sg x1 x4).bind fun y1 =>
        (f_Mod_shortestOf y1.2 x2 x4).bind fun y2 =>
          if y1.1 = (-1 : Int32) then
            f_Mod_nearerOf_57 (f_Mod_nearerOf_5 n) y2.2 x1 x2 x4 x3
          else
            if y2.1 = (-1 : Int32) then
              f_Mod_nearerOf_50 (f_Mod_nearerOf_5 n) y2.2 x1 x2 x4 x3
            else
              if y2.1 ≤ y1.1 then
                f_Mod_nearerOf_57 (f_Mod_nearerOf_5 n) y2.2 x1 x2 x4 x3
              else
                f_Mod_nearerOf_50 (f_Mod_nearerOf_5 n) y2.2 x1 x2 x4 x3
def f_Mod_nearerOf (sg : Hp) (x1 : Int32) (x2 : Int32) : Option (Int32 × Hp) :=
  f_Mod_nearerOf_5  LF sg x1 x2 (0 : Int32) (0 : Int32)
/-! BoxSpiderModel.nearer, method 163 -/
def f_Mod_nearer (sg : Hp) (x1 : Int32) (x2 : Int32) : Option (Int32 × Hp) :=
  (f_Mod_isPlace sg x1).bind fun y1 =>
    if y1.1 = (0 : Int32) then
      some ((-2 : Int32), y1.2)
    else
      (f_Mod_isPlace y1.2 x2).bind fun y2 =>
        if y2.1 = (0 : Int32) then
          some ((-2 : Int32), y2.2)
        else
          if x1 = x2 then
            some ((-2 : Int32), y2.2)
          else
            (f_Mod_nearerOf y2.2 x1 x2).bind fun y3 =>
              some (y3.1, y3.2)
/-! BoxSpider$Wiring.clear, method 66 -/
def f_Wiring_clear_12  : Nat → Hp → Int32 → Option (Hp)
  | 0, _, _ => none
  | n + 1, sg, x1 =>
    if (8 : Int32) ≤ x1 then
      some sg
    else
      if inb x1 8 = true then
        f_Wiring_clear_12 n (w2 sg 30 (x1).toNatClampNeg x1) (x1 + (1 : Int32))
      else none
def f_Wiring_clear (sg : Hp)  : Option (Hp) :=
  f_Wiring_clear_12  LF (w2 (w2 sg 29 2 (0 : Int32)) 29 3 (0 : Int32)) (0 : Int32)
/-! BoxSpider$Wiring.isOpen, method 68 -/
def f_Wiring_isOpen_35  (sg : Hp) (x3 : Int32) (x4 : Int32) (xs0 : Int32) : Option (Int32 × Hp) :=
  if x4 ≤ x3 then
    some ((0 : Int32), sg)
  else
    if xs0 = (0 : Int32) then
      some ((0 : Int32), sg)
    else
      if inb x3 8 = true then
        if inb x4 8 = true then
          if (sg 30 (x3).toNatClampNeg) = (sg 30 (x4).toNatClampNeg) then
            some ((0 : Int32), sg)
          else
            some ((1 : Int32), sg)
        else none
      else none
def f_Wiring_isOpen_34  (sg : Hp) (x3 : Int32) (x4 : Int32) : Option (Int32 × Hp) :=
  f_Wiring_isOpen_35  sg x3 x4 (0 : Int32)
def f_Wiring_isOpen (sg : Hp) (x1 : Int32) (x2 : Int32) : Option (Int32 × Hp) :=
  if ((x2 >>> ((x1 / (8 : Int32)) &&& 31)) &&& (1 : Int32)) = (1 : Int32) then
    if ((x2 >>> ((x1 - x1 / (8 : Int32) * (8 : Int32)) &&& 31)) &&& (1 : Int32)) = (1 : Int32) then
      f_Wiring_isOpen_35  sg (x1 / (8 : Int32)) (x1 - x1 / (8 : Int32) * (8 : Int32)) (1 : Int32)
    else
      f_Wiring_isOpen_34  sg (x1 / (8 : Int32)) (x1 - x1 / (8 : Int32) * (8 : Int32))
  else
    f_Wiring_isOpen_34  sg (x1 / (8 : Int32)) (x1 - x1 / (8 : Int32) * (8 : Int32))
/-! BoxSpider$Wiring.unite, method 69 -/
def f_Wiring_unite_25 (k2 : Hp → Int32 → Int32 → Int32 → Option (Hp)) (sg : Hp) (x1 : Int32) (x2 : Int32) (x3 : Int32) : Option (Hp) :=
  k2 sg x1 x2 (x3 + (1 : Int32))
def f_Wiring_unite_2  : Nat → Hp → Int32 → Int32 → Int32 → Option (Hp)
  | 0, _, _, _, _ => none
  | n + 1, sg, x1, x2, x3 =>
    if (8 : Int32) ≤ x3 then
      some sg
    else
      if inb x3 8 = true then
        if (sg 30 (x3).toNatClampNeg) = x2 then
          if inb x3 8 = true then
            f_Wiring_unite_25 (f_Wiring_unite_2 n) (w2 sg 30 (x3).toNatClampNeg x1) x1 x2 x3
          else none
        else
          f_Wiring_unite_25 (f_Wiring_unite_2 n) sg x1 x2 x3
      else none
def f_Wiring_unite (sg : Hp) (x1 : Int32) (x2 : Int32) : Option (Hp) :=
  f_Wiring_unite_2  LF sg x1 x2 (0 : Int32)
/-! BoxSpider$Wiring.joinNext, method 67 -/
def f_Wiring_joinNext_71 (k8 : Hp → Int32 → Int32 → Int32 → Int32 → Option (Int32 × Hp)) (sg : Hp) (x2 : Int32) (x3 : Int32) (x4 : Int32) (x5 : Int32) : Option (Int32 × Hp) :=
  k8 sg x2 x3 x4 (x5 + (1 : Int32))
def f_Wiring_joinNext_64 (k8 : Hp → Int32 → Int32 → Int32 → Int32 → Option (Int32 × Hp)) (sg : Hp) (x2 : Int32) (x5 : Int32) (x6 : Int32) : Option (Int32 × Hp) :=
  f_Wiring_joinNext_71 k8 sg x2 x5 x6 x5
def f_Wiring_joinNext_8  : Nat → Hp → Int32 → Int32 → Int32 → Int32 → Option (Int32 × Hp)
  | 0, _, _, _, _, _ => none
  | n + 1, sg, x2, x3, x4, x5 =>
    if (64 : Int32) ≤ x5 then
      if x3 = (-1 : Int32) then
        some ((0 : Int32), sg)
      else
        if (sg 29 2) < (8 : Int32) then
          if inb (sg 29 2) 8 = true then
            if inb (x3 / (8 : Int32)) 8 = true then
              if inb (x3 - x3 / (8 : Int32) * (8 : Int32)) 8 = true then
                (f_Wiring_unite (w2 (w2 (w2 sg 31 ((sg 29 2)).toNatClampNeg x3) 29 2 (((w2 sg 31 ((sg 29 2)).toNatClampNeg x3) 29 2) + (1 : Int32))) 29 3 x4) ((w2 (w2 (w2 sg 31 ((sg 29 2)).toNatClampNeg x3) 29 2 (((w2 sg 31 ((sg 29 2)).toNatClampNeg x3) 29 2) + (1 : Int32))) 29 3 x4) 30 ((x3 / (8 : Int32))).toNatClampNeg) ((w2 (w2 (w2 sg 31 ((sg 29 2)).toNatClampNeg x3) 29 2 (((w2 sg 31 ((sg 29 2)).toNatClampNeg x3) 29 2) + (1 : Int32))) 29 3 x4) 30 ((x3 - x3 / (8 : Int32) * (8 : Int32))).toNatClampNeg)).bind fun y4 =>
                  some ((1 : Int32), y4)
              else none
            else none
          else none
        else
          some ((0 : Int32), sg)
    else
      (f_Wiring_isOpen sg x5 x2).bind fun y5 =>
        if y5.1 = (0 : Int32) then
          f_Wiring_joinNext_71 (f_Wiring_joinNext_8 n) y5.2 x2 x3 x4 x5
        else
          (f_Table_look y5.2 (x5 / (8 : Int32)) (x5 - x5 / (8 : Int32) * (8 : Int32))).bind fun y6 =>
            if inb y6.1 64 = true then
              if (y6.2 25 (y6.1).toNatClampNeg) = (-1 : Int32) then
                f_Wiring_joinNext_71 (f_Wiring_joinNext_8 n) y6.2 x2 x3 x4 x5
              else
                if x3 = (-1 : Int32) then
                  f_Wiring_joinNext_64 (f_Wiring_joinNext_8 n) y6.2 x2 x5 (y6.2 25 (y6.1).toNatClampNeg)
                else
                  if x4 ≤ (y6.2 25 (y6.1).toNatClampNeg) then
                    f_Wiring_joinNext_71 (f_Wiring_joinNext_8 n) y6.2 x2 x3 x4 x5
                  else
                    f_Wiring_joinNext_64 (f_Wiring_joinNext_8 n) y6.2 x2 x5 (y6.2 25 (y6.1).toNatClampNeg)
            else none
def f_Wiring_joinNext (sg : Hp) (x2 : Int32) : Option (Int32 × Hp) :=
  f_Wiring_joinNext_8  LF sg x2 (-1 : Int32) (-1 : Int32) (0 : Int32)
/-! BoxSpider.wires, method 65 -/
def f_Box_wires_62  (sg : Hp) (x2 : Int32) : Option (Int32 × Hp) :=
  if x2 = (-1 : Int32) then
    some ((sg 29 2), sg)
  else
    if x2 = (-2 : Int32) then
      some ((sg 29 3), sg)
    else
      if (sg 29 2) ≤ x2 then
        some ((-1 : Int32), sg)
      else
        if inb x2 8 = true then
          some ((sg 31 (x2).toNatClampNeg), sg)
        else none
def f_Box_wires_32  : Nat → Hp → Int32 → Int32 → Int32 → Int32 → Option (Int32 × Hp)
  | 0, _, _, _, _, _ => none
  | n + 1, sg, x1, x2, x3, x4 =>
    if (8 : Int32) ≤ x4 then
      f_Box_wires_62  sg x2
    else
      if x3 = (0 : Int32) then
        f_Box_wires_62  sg x2
      else
        (f_Wiring_joinNext sg x1).bind fun y3 =>
          f_Box_wires_32 n y3.2 x1 x2 y3.1 (x4 + (1 : Int32))
def f_Box_wires (sg : Hp) (x1 : Int32) (x2 : Int32) : Option (Int32 × Hp) :=
  if x1 < (0 : Int32) then
    some ((-2 : Int32), sg)
  else
    if (256 : Int32) ≤ x1 then
      some ((-2 : Int32), sg)
    else
      if (-2 : Int32) ≤ x2 then
        (f_Wiring_clear sg ).bind fun y1 =>
          f_Box_wires_32  LF y1 x1 x2 (1 : Int32) (1 : Int32)
      else
        some ((-2 : Int32), sg)
/-! BoxSpiderModel.joins, method 167 -/
def f_Mod_joins_50 (k10 : Hp → Int32 → Int32 → Int32 → Option (Hp)) (sg : Hp) (x1 : Int32) (x3 : Int32) (x4 : Int32) (xs1 : Int32) (xs2 : Int32) : Option (Hp) :=
  if inb xs1 8 = true then
    k10 (w2 sg 61 (xs1).toNatClampNeg xs2) x1 x3 (x4 + (1 : Int32))
  else none
def f_Mod_joins_10  : Nat → Hp → Int32 → Int32 → Int32 → Option (Hp)
  | 0, _, _, _, _ => none
  | n + 1, sg, x1, x3, x4 =>
    if (8 : Int32) ≤ x4 then
      some sg
    else
      if inb x4 8 = true then
        if (sg 61 (x4).toNatClampNeg) = x3 then
          if inb x1 8 = true then
            f_Mod_joins_50 (f_Mod_joins_10 n) sg x1 x3 x4 x4 (sg 61 (x1).toNatClampNeg)
          else none
        else
          if inb x4 8 = true then
            f_Mod_joins_50 (f_Mod_joins_10 n) sg x1 x3 x4 x4 (sg 61 (x4).toNatClampNeg)
          else none
      else none
def f_Mod_joins (sg : Hp) (x1 : Int32) (x2 : Int32) : Option (Hp) :=
  if inb x2 8 = true then
    f_Mod_joins_10  LF sg x1 (sg 61 (x2).toNatClampNeg) (0 : Int32)
  else none
/-! BoxSpiderModel.wiresOf, method 166 -/
def f_Mod_wiresOf_279 (k90 : Hp → Int32 → Int32 → Int32 → Int32 → Int32 → Option (Int32 × Hp)) (sg : Hp) (x2 : Int32) (x3 : Int32) (x4 : Int32) (x5 : Int32) (x6 : Int32) : Option (Int32 × Hp) :=
  k90 sg x2 x3 x4 x5 x6
def f_Mod_wiresOf_274 (k90 : Hp → Int32 → Int32 → Int32 → Int32 → Int32 → Option (Int32 × Hp)) (sg : Hp) (x2 : Int32) (x3 : Int32) (x4 : Int32) (x6 : Int32) (xs0 : Int32) : Option (Int32 × Hp) :=
  f_Mod_wiresOf_279 k90 sg x2 (x3 + (1 : Int32)) x4 xs0 x6
def f_Mod_wiresOf_227 (k90 : Hp → Int32 → Int32 → Int32 → Int32 → Int32 → Option (Int32 × Hp)) (sg : Hp) (x2 : Int32) (x3 : Int32) (x4 : Int32) (x5 : Int32) (x7 : Int32) (xs0 : Int32) : Option (Int32 × Hp) :=
  if xs0 = (0 : Int32) then
    f_Mod_wiresOf_279 k90 sg x2 x3 x4 x5 xs0
  else
    (f_Mod_joins sg (x7 / (8 : Int32)) (x7 - x7 / (8 : Int32) * (8 : Int32))).bind fun y1 =>
      if inb x7 64 = true then
        (f_Mod_greater y1 x4 (y1 60 (x7).toNatClampNeg)).bind fun y3 =>
          if x3 = x2 then
            f_Mod_wiresOf_274 k90 y3.2 x2 x3 y3.1 xs0 x7
          else
            f_Mod_wiresOf_274 k90 y3.2 x2 x3 y3.1 xs0 x5
      else none
def f_Mod_wiresOf_202 (k90 : Hp → Int32 → Int32 → Int32 → Int32 → Int32 → Option (Int32 × Hp)) (k101 : Hp → Int32 → Int32 → Int32 → Int32 → Int32 → Int32 → Option (Int32 × Hp)) (k114 : Hp → Int32 → Int32 → Int32 → Int32 → Int32 → Int32 → Int32 → Option (Int32 × Hp)) (sg : Hp) (x2 : Int32) (x3 : Int32) (x4 : Int32) (x5 : Int32) (x8 : Int32) (x9 : Int32) (xs0 : Int32) : Option (Int32 × Hp) :=
  k114 sg x2 x3 x4 x5 xs0 x8 (x9 + (1 : Int32))
def f_Mod_wiresOf_200 (k90 : Hp → Int32 → Int32 → Int32 → Int32 → Int32 → Option (Int32 × Hp)) (k101 : Hp → Int32 → Int32 → Int32 → Int32 → Int32 → Int32 → Option (Int32 × Hp)) (k114 : Hp → Int32 → Int32 → Int32 → Int32 → Int32 → Int32 → Int32 → Option (Int32 × Hp)) (sg : Hp) (x2 : Int32) (x3 : Int32) (x4 : Int32) (x5 : Int32) (x7 : Int32) (x8 : Int32) (x9 : Int32) : Option (Int32 × Hp) :=
  f_Mod_wiresOf_202 k90 k101 k114 sg x2 x3 x4 x5 x8 x9 x7
def f_Mod_wiresOf_189 (k90 : Hp → Int32 → Int32 → Int32 → Int32 → Int32 → Option (Int32 × Hp)) (k101 : Hp → Int32 → Int32 → Int32 → Int32 → Int32 → Int32 → Option (Int32 × Hp)) (k114 : Hp → Int32 → Int32 → Int32 → Int32 → Int32 → Int32 → Int32 → Option (Int32 × Hp)) (sg : Hp) (x2 : Int32) (x3 : Int32) (x4 : Int32) (x5 : Int32) (x8 : Int32) (x9 : Int32) : Option (Int32 × Hp) :=
  f_Mod_wiresOf_202 k90 k101 k114 sg x2 x3 x4 x5 x8 x9 (((8 : Int32) * x8) + x9)
def f_Mod_wiresOf_164 (k90 : Hp → Int32 → Int32 → Int32 → Int32 → Int32 → Option (Int32 × Hp)) (k101 : Hp → Int32 → Int32 → Int32 → Int32 → Int32 → Int32 → Option (Int32 × Hp)) (k114 : Hp → Int32 → Int32 → Int32 → Int32 → Int32 → Int32 → Int32 → Option (Int32 × Hp)) (sg : Hp) (x2 : Int32) (x3 : Int32) (x4 : Int32) (x5 : Int32) (x7 : Int32) (x8 : Int32) (x9 : Int32) (x10 : Int32) (xs0 : Int32) : Option (Int32 × Hp) :=
  if xs0 = (0 : Int32) then
    f_Mod_wiresOf_200 k90 k101 k114 sg x2 x3 x4 x5 x7 x8 x9
  else
    if x7 = (-1 : Int32) then
      f_Mod_wiresOf_189 k90 k101 k114 sg x2 x3 x4 x5 x8 x9
    else
      if inb x7 64 = true then
        if (sg 60 (x7).toNatClampNeg) ≤ x10 then
          f_Mod_wiresOf_200 k90 k101 k114 sg x2 x3 x4 x5 x7 x8 x9
        else
          f_Mod_wiresOf_189 k90 k101 k114 sg x2 x3 x4 x5 x8 x9
      else none
def f_Mod_wiresOf_163 (k90 : Hp → Int32 → Int32 → Int32 → Int32 → Int32 → Option (Int32 × Hp)) (k101 : Hp → Int32 → Int32 → Int32 → Int32 → Int32 → Int32 → Option (Int32 × Hp)) (k114 : Hp → Int32 → Int32 → Int32 → Int32 → Int32 → Int32 → Int32 → Option (Int32 × Hp)) (sg : Hp) (x2 : Int32) (x3 : Int32) (x4 : Int32) (x5 : Int32) (x7 : Int32) (x8 : Int32) (x9 : Int32) (x10 : Int32) : Option (Int32 × Hp) :=
  f_Mod_wiresOf_164 k90 k101 k114 sg x2 x3 x4 x5 x7 x8 x9 x10 (0 : Int32)
def f_Mod_wiresOf_114 (k90 : Hp → Int32 → Int32 → Int32 → Int32 → Int32 → Option (Int32 × Hp)) (k101 : Hp → Int32 → Int32 → Int32 → Int32 → Int32 → Int32 → Option (Int32 × Hp)) : Nat → Hp → Int32 → Int32 → Int32 → Int32 → Int32 → Int32 → Int32 → Option (Int32 × Hp)
  | 0, _, _, _, _, _, _, _, _ => none
  | n + 1, sg, x2, x3, x4, x5, x7, x8, x9 =>
    if (8 : Int32) ≤ x9 then
      k101 sg x2 x3 x4 x5 x7 (x8 + (1 : Int32))
    else
      if inb (((8 : Int32) * x8) + x9) 64 = true then
        if (sg 60 ((((8 : Int32) * x8) + x9)).toNatClampNeg) = (-1 : Int32) then
          f_Mod_wiresOf_163 k90 k101 (f_Mod_wiresOf_114 k90 k101 n) sg x2 x3 x4 x5 x7 x8 x9 (sg 60 ((((8 : Int32) * x8) + x9)).toNatClampNeg)
        else
          if inb x8 8 = true then
            if inb x9 8 = true then
              if (sg 61 (x8).toNatClampNeg) = (sg 61 (x9).toNatClampNeg) then
                f_Mod_wiresOf_163 k90 k101 (f_Mod_wiresOf_114 k90 k101 n) sg x2 x3 x4 x5 x7 x8 x9 (sg 60 ((((8 : Int32) * x8) + x9)).toNatClampNeg)
              else
                f_Mod_wiresOf_164 k90 k101 (f_Mod_wiresOf_114 k90 k101 n) sg x2 x3 x4 x5 x7 x8 x9 (sg 60 ((((8 : Int32) * x8) + x9)).toNatClampNeg) (1 : Int32)
            else none
          else none
      else none
def f_Mod_wiresOf_101 (k90 : Hp → Int32 → Int32 → Int32 → Int32 → Int32 → Option (Int32 × Hp)) : Nat → Hp → Int32 → Int32 → Int32 → Int32 → Int32 → Int32 → Option (Int32 × Hp)
  | 0, _, _, _, _, _, _, _ => none
  | n + 1, sg, x2, x3, x4, x5, x7, x8 =>
    if (8 : Int32) ≤ x8 then
      if x7 = (-1 : Int32) then
        f_Mod_wiresOf_227 k90 sg x2 x3 x4 x5 x7 (0 : Int32)
      else
        f_Mod_wiresOf_227 k90 sg x2 x3 x4 x5 x7 (1 : Int32)
    else
      f_Mod_wiresOf_114 k90 (f_Mod_wiresOf_101 k90 n) LF sg x2 x3 x4 x5 x7 x8 (x8 + (1 : Int32))
def f_Mod_wiresOf_90  : Nat → Hp → Int32 → Int32 → Int32 → Int32 → Int32 → Option (Int32 × Hp)
  | 0, _, _, _, _, _, _ => none
  | n + 1, sg, x2, x3, x4, x5, x6 =>
    if x6 = (0 : Int32) then
      if x2 = (-1 : Int32) then
        some (x3, sg)
      else
        if x2 = (-2 : Int32) then
          some (x4, sg)
        else
          some (x5, sg)
    else
      f_Mod_wiresOf_101 (f_Mod_wiresOf_90 n) LF sg x2 x3 x4 x5 (-1 : Int32) (0 : Int32)
def f_Mod_wiresOf_66 (k2 : Hp → Int32 → Int32 → Int32 → Option (Int32 × Hp)) (k20 : Hp → Int32 → Int32 → Int32 → Int32 → Option (Int32 × Hp)) (sg : Hp) (x1 : Int32) (x2 : Int32) (x3 : Int32) (x4 : Int32) (xs1 : Int32) (xs2 : Int32) : Option (Int32 × Hp) :=
  if inb xs1 64 = true then
    k20 (w2 sg 60 (xs1).toNatClampNeg xs2) x1 x2 x3 (x4 + (1 : Int32))
  else none
def f_Mod_wiresOf_65 (k2 : Hp → Int32 → Int32 → Int32 → Option (Int32 × Hp)) (k20 : Hp → Int32 → Int32 → Int32 → Int32 → Option (Int32 × Hp)) (sg : Hp) (x1 : Int32) (x2 : Int32) (x3 : Int32) (x4 : Int32) (xs1 : Int32) : Option (Int32 × Hp) :=
  f_Mod_wiresOf_66 k2 k20 sg x1 x2 x3 x4 xs1 (-1 : Int32)
def f_Mod_wiresOf_20 (k2 : Hp → Int32 → Int32 → Int32 → Option (Int32 × Hp)) : Nat → Hp → Int32 → Int32 → Int32 → Int32 → Option (Int32 × Hp)
  | 0, _, _, _, _, _ => none
  | n + 1, sg, x1, x2, x3, x4 =>
    if (8 : Int32) ≤ x4 then
      k2 sg x1 x2 (x3 + (1 : Int32))
    else
      (f_Mod_isIn sg x1 x3).bind fun y9 =>
        if y9.1 = (0 : Int32) then
          f_Mod_wiresOf_65 k2 (f_Mod_wiresOf_20 k2 n) y9.2 x1 x2 x3 x4 (((8 : Int32) * x3) + x4)
        else
          (f_Mod_isIn y9.2 x1 x4).bind fun y11 =>
            if y11.1 = (0 : Int32) then
              f_Mod_wiresOf_65 k2 (f_Mod_wiresOf_20 k2 n) y11.2 x1 x2 x3 x4 (((8 : Int32) * x3) + x4)
            else
              (f_Mod_shortestOf y11.2 x3 x4).bind fun y12 =>
                f_Mod_wiresOf_66 k2 (f_Mod_wiresOf_20 k2 n) y12.2 x1 x2 x3 x4 (((8 : Int32) * x3) + x4) y12.1
def f_Mod_wiresOf_2  : Nat → Hp → Int32 → Int32 → Int32 → Option (Int32 × Hp)
  | 0, _, _, _, _ => none
  | n + 1, sg, x1, x2, x3 =>
    if (8 : Int32) ≤ x3 then
      f_Mod_wiresOf_90  LF sg x2 (0 : Int32) (0 : Int32) (-1 : Int32) (1 : Int32)
    else
      if inb x3 8 = true then
        f_Mod_wiresOf_20 (f_Mod_wiresOf_2 n) LF (w2 sg 61 (x3).toNatClampNeg x3) x1 x2 x3 (x3 + (1 : Int32))
      else none
def f_Mod_wiresOf (sg : Hp) (x1 : Int32) (x2 : Int32) : Option (Int32 × Hp) :=
  f_Mod_wiresOf_2  LF sg x1 x2 (0 : Int32)
/-! BoxSpiderModel.wires, method 165 -/
def f_Mod_wires (sg : Hp) (x1 : Int32) (x2 : Int32) : Option (Int32 × Hp) :=
  (f_Mod_in sg (x1).toInt64 (0 : Int64) (255 : Int64)).bind fun y1 =>
    if y1.1 = (0 : Int32) then
      some ((-2 : Int32), y1.2)
    else
      if x2 < (-2 : Int32) then
        some ((-2 : Int32), y1.2)
      else
        (f_Mod_wiresOf y1.2 x1 x2).bind fun y2 =>
          some (y2.1, y2.2)
/-! BoxSpider.isLength, method 71 -/
def f_Box_isLength (sg : Hp) (x0 : Int32) : Option (Int32 × Hp) :=
  if x0 < (0 : Int32) then
    some ((0 : Int32), sg)
  else
    if (9999 : Int32) < x0 then
      some ((0 : Int32), sg)
    else
      some ((1 : Int32), sg)
/-! BoxSpider.isNear, method 72 -/
def f_Box_isNear (sg : Hp) (x1 : Int32) (x2 : Int32) (x3 : Int32) : Option (Int32 × Hp) :=
  (f_Table_look sg x1 x2).bind fun y1 =>
    if inb y1.1 64 = true then
      if (y1.2 25 (y1.1).toNatClampNeg) = (-1 : Int32) then
        some ((0 : Int32), y1.2)
      else
        if x3 < (y1.2 25 (y1.1).toNatClampNeg) then
          some ((0 : Int32), y1.2)
        else
          some ((1 : Int32), y1.2)
    else none
/-! BoxSpider.within, method 70 -/
def f_Box_within_43 (k22 : Hp → Int32 → Int32 → Int32 → Int32 → Option (Int32 × Hp)) (sg : Hp) (x1 : Int32) (x2 : Int32) (x3 : Int32) (x4 : Int32) : Option (Int32 × Hp) :=
  k22 sg x1 x2 x3 (x4 + (1 : Int32))
def f_Box_within_22  : Nat → Hp → Int32 → Int32 → Int32 → Int32 → Option (Int32 × Hp)
  | 0, _, _, _, _, _ => none
  | n + 1, sg, x1, x2, x3, x4 =>
    if (8 : Int32) ≤ x4 then
      some (x3, sg)
    else
      (f_Box_isNear sg x1 x4 x2).bind fun y3 =>
        if y3.1 = (0 : Int32) then
          f_Box_within_43 (f_Box_within_22 n) y3.2 x1 x2 x3 x4
        else
          f_Box_within_43 (f_Box_within_22 n) y3.2 x1 x2 (x3 + (1 : Int32)) x4
def f_Box_within (sg : Hp) (x1 : Int32) (x2 : Int32) : Option (Int32 × Hp) :=
  (f_Box_isPlace sg x1).bind fun y1 =>
    if y1.1 = (0 : Int32) then
      some ((-2 : Int32), y1.2)
    else
      (f_Box_isLength y1.2 x2).bind fun y2 =>
        if y2.1 = (0 : Int32) then
          some ((-2 : Int32), y2.2)
        else
          f_Box_within_22  LF y2.2 x1 x2 (0 : Int32) (0 : Int32)
/-! BoxSpiderModel.withinOf, method 169 -/
def f_Mod_withinOf_35 (k5 : Hp → Int32 → Int32 → Int32 → Int32 → Option (Int32 × Hp)) (sg : Hp) (x1 : Int32) (x2 : Int32) (x4 : Int32) (xs0 : Int32) (xs1 : Int32) : Option (Int32 × Hp) :=
  k5 sg x1 x2 (xs0 + xs1) (x4 + (1 : Int32))
def f_Mod_withinOf_5  : Nat → Hp → Int32 → Int32 → Int32 → Int32 → Option (Int32 × Hp)
  | 0, _, _, _, _, _ => none
  | n + 1, sg, x1, x2, x3, x4 =>
    if (8 : Int32) ≤ x4 then
      some (x3, sg)
    else
      (f_Mod_shortestOf sg x1 x4).bind fun y1 =>
        (f_Mod_in y1.2 (y1.1).toInt64 (0 : Int64) (x2).toInt64).bind fun y2 =>
          if y2.1 = (0 : Int32) then
            f_Mod_withinOf_35 (f_Mod_withinOf_5 n) y2.2 x1 x2 x4 x3 (0 : Int32)
          else
            f_Mod_withinOf_35 (f_Mod_withinOf_5 n) y2.2 x1 x2 x4 x3 (1 : Int32)
def f_Mod_withinOf (sg : Hp) (x1 : Int32) (x2 : Int32) : Option (Int32 × Hp) :=
  f_Mod_withinOf_5  LF sg x1 x2 (0 : Int32) (0 : Int32)
/-! BoxSpiderModel.within, method 168 -/
def f_Mod_within (sg : Hp) (x1 : Int32) (x2 : Int32) : Option (Int32 × Hp) :=
  (f_Mod_isPlace sg x1).bind fun y1 =>
    if y1.1 = (0 : Int32) then
      some ((-2 : Int32), y1.2)
    else
      (f_Mod_in y1.2 (x2).toInt64 (0 : Int64) (9999 : Int64)).bind fun y2 =>
        if y2.1 = (0 : Int32) then
          some ((-2 : Int32), y2.2)
        else
          (f_Mod_withinOf y2.2 x1 x2).bind fun y3 =>
            some (y3.1, y3.2)
/-! BoxSpider.lineStaysWithin, method 74 -/
def f_Box_lineStaysWithin_7  : Nat → Hp → Int32 → Int32 → Option (Int32 × Hp)
  | 0, _, _, _ => none
  | n + 1, sg, x2, x3 =>
    if x2 ≤ x3 then
      some ((1 : Int32), sg)
    else
      if (sg 9 1) ≤ x3 then
        some ((1 : Int32), sg)
      else
        if inb x3 40 = true then
          (f_Rolls_rollOf sg (sg 10 (x3).toNatClampNeg)).bind fun y3 =>
            (f_Line_meets y3.2 34 33 y3.1).bind fun y4 =>
              if y4.1 = (0 : Int32) then
                some ((0 : Int32), y4.2)
              else
                (f_Stand_roll y4.2 33 y3.1).bind fun y5 =>
                  (f_Room_isBarred y5 (y3.2 33 0) (y5 33 0)).bind fun y6 =>
                    if y6.1 = (0 : Int32) then
                      f_Box_lineStaysWithin_7 n y6.2 x2 (x3 + (1 : Int32))
                    else
                      some ((0 : Int32), y6.2)
        else none
def f_Box_lineStaysWithin (sg : Hp) (x1 : Int32) (x2 : Int32) : Option (Int32 × Hp) :=
  (f_Box_standBehind sg x1).bind fun y1 =>
    f_Box_lineStaysWithin_7  LF y1 x2 x1
/-! BoxSpider.told, method 73 -/
def f_Box_told (sg : Hp) (x1 : Int32) (x2 : Int32) (x3 : Int32) (x4 : Int32) : Option (Int32 × Hp) :=
  (f_Box_isPlace sg x1).bind fun y1 =>
    if y1.1 = (0 : Int32) then
      some ((-2 : Int32), y1.2)
    else
      (f_Box_isPlace y1.2 x3).bind fun y2 =>
        if y2.1 = (0 : Int32) then
          some ((-2 : Int32), y2.2)
        else
          if x2 < (0 : Int32) then
            some ((-2 : Int32), y2.2)
          else
            if x4 < x2 then
              some ((-2 : Int32), y2.2)
            else
              (f_Rolls_valid y2.2 ).bind fun y3 =>
                if x4 ≤ y3.1 then
                  (f_Box_standBehind y3.2 x2).bind fun y4 =>
                    (f_Room_spotOf y4 x1 35).bind fun y5 =>
                      (f_Spot_isOn y5 35 (y5 33 0)).bind fun y6 =>
                        if y6.1 = (0 : Int32) then
                          some ((-3 : Int32), y6.2)
                        else
                          (f_Stand_planeX y6.2 33 35).bind fun y7 =>
                            (f_Stand_planeY y7.2 33 35).bind fun y8 =>
                              (f_Line_begin y8.2 34 y7.1 y8.1).bind fun y9 =>
                                (f_Box_standBehind y9 x4).bind fun y10 =>
                                  (f_Room_spotOf y10 x3 35).bind fun y11 =>
                                    (f_Spot_isOn y11 35 (y11 33 0)).bind fun y12 =>
                                      if y12.1 = (0 : Int32) then
                                        some ((-3 : Int32), y12.2)
                                      else
                                        (f_Stand_planeX y12.2 33 35).bind fun y13 =>
                                          (f_Stand_planeY y13.2 33 35).bind fun y14 =>
                                            (f_Line_end y14.2 34 y13.1 y14.1).bind fun y15 =>
                                              (f_Box_lineStaysWithin y15 x2 x4).bind fun y16 =>
                                                if y16.1 = (0 : Int32) then
                                                  some ((-3 : Int32), y16.2)
                                                else
                                                  (f_Line_square y16.2 34).bind fun y17 =>
                                                    some (y17.1, y17.2)
                else
                  some ((-2 : Int32), y3.2)
/-! BoxSpiderModel.toldOf, method 171 -/
def f_Mod_toldOf (sg : Hp) (x1 : Int32) (x2 : Int32) (x3 : Int32) (x4 : Int32) : Option (Int32 × Hp) :=
  (f_Mod_goesTo sg x4).bind fun y1 =>
    (f_Mod_faceAt y1 x2).bind fun y2 =>
      (f_Mod_isOn y2.2 y2.1 x1).bind fun y3 =>
        if y3.1 = (0 : Int32) then
          some ((-3 : Int32), y3.2)
        else
          (f_Mod_faceAt y3.2 x4).bind fun y4 =>
            (f_Mod_isOn y4.2 y4.1 x3).bind fun y5 =>
              if y5.1 = (0 : Int32) then
                some ((-3 : Int32), y5.2)
              else
                (f_Mod_lineOf y5.2 x1 x2 x3 x4).bind fun y6 =>
                  if y6.1 = (-1 : Int32) then
                    some ((-3 : Int32), y6.2)
                  else
                    some (y6.1, y6.2)
/-! BoxSpiderModel.told, method 170 -/
def f_Mod_told (sg : Hp) (x1 : Int32) (x2 : Int32) (x3 : Int32) (x4 : Int32) : Option (Int32 × Hp) :=
  (f_Mod_isPlace sg x1).bind fun y1 =>
    if y1.1 = (0 : Int32) then
      some ((-2 : Int32), y1.2)
    else
      (f_Mod_isPlace y1.2 x3).bind fun y2 =>
        if y2.1 = (0 : Int32) then
          some ((-2 : Int32), y2.2)
        else
          (f_Mod_rolls y2.2 ).bind fun y3 =>
            (f_Mod_in y3.2 (x4).toInt64 (0 : Int64) (y3.1).toInt64).bind fun y4 =>
              if y4.1 = (0 : Int32) then
                some ((-2 : Int32), y4.2)
              else
                (f_Mod_in y4.2 (x2).toInt64 (0 : Int64) (x4).toInt64).bind fun y5 =>
                  if y5.1 = (0 : Int32) then
                    some ((-2 : Int32), y5.2)
                  else
                    (f_Mod_toldOf y5.2 x1 x2 x3 x4).bind fun y6 =>
                      some (y6.1, y6.2)
/-! BoxSpider.isSlope, method 76 -/
def f_Box_isSlope (sg : Hp) (x0 : Int32) : Option (Int32 × Hp) :=
  if x0 < (-9 : Int32) then
    some ((0 : Int32), sg)
  else
    if (9 : Int32) < x0 then
      some ((0 : Int32), sg)
    else
      some ((1 : Int32), sg)
/-! BoxSpider.nextRoll, method 77 -/
def f_Box_nextRoll_78  (sg : Hp) (x1 : Int32) (x2 : Int32) (x5 : Int32) (xs0 : Int32) : Option (Int32 × Hp) :=
  if (x5 * (if 0 ≤ x2 then x2 else 0 - x2)) = (xs0 * (if 0 ≤ x1 then x1 else 0 - x1)) then
    some ((0 : Int32), sg)
  else
    if (xs0 * (if 0 ≤ x1 then x1 else 0 - x1)) ≤ (x5 * (if 0 ≤ x2 then x2 else 0 - x2)) then
      if x2 ≤ (0 : Int32) then
        some ((4 : Int32), sg)
      else
        some ((3 : Int32), sg)
    else
      if x1 ≤ (0 : Int32) then
        some ((2 : Int32), sg)
      else
        some ((1 : Int32), sg)
def f_Box_nextRoll_37  (sg : Hp) (x1 : Int32) (x2 : Int32) (x4 : Int32) (xs0 : Int32) : Option (Int32 × Hp) :=
  if x2 ≤ (0 : Int32) then
    f_Box_nextRoll_78  sg x1 x2 xs0 (x4 - ((2 : Int32) * (sg 33 4)))
  else
    f_Box_nextRoll_78  sg x1 x2 xs0 (((2 : Int32) * ((sg 33 4) + (sg 33 6))) - x4)
def f_Box_nextRoll (sg : Hp) (x1 : Int32) (x2 : Int32) (x3 : Int32) (x4 : Int32) : Option (Int32 × Hp) :=
  if x1 ≤ (0 : Int32) then
    f_Box_nextRoll_37  sg x1 x2 x4 (x3 - ((2 : Int32) * (sg 33 3)))
  else
    f_Box_nextRoll_37  sg x1 x2 x4 (((2 : Int32) * ((sg 33 3) + (sg 33 5))) - x3)
/-! BoxSpider.snail, method 75 -/
def f_Box_snail_78  : Nat → Hp → Int32 → Int32 → Int32 → Int32 → Int32 → Int32 → Int32 → Int32 → Option (Int32 × Hp)
  | 0, _, _, _, _, _, _, _, _, _ => none
  | n + 1, sg, x1, x2, x3, x4, x5, x6, x7, x8 =>
    if x3 ≤ x8 then
      if x4 = (0 : Int32) then
        some ((sg 33 0), sg)
      else
        some (x7, sg)
    else
      (f_Box_nextRoll sg x1 x2 x5 x6).bind fun y4 =>
        if y4.1 = (0 : Int32) then
          some ((-1 : Int32), y4.2)
        else
          (f_Stand_roll y4.2 33 y4.1).bind fun y5 =>
            f_Box_snail_78 n y5 x1 x2 x3 x4 x5 x6 y4.1 (x8 + (1 : Int32))
def f_Box_snail_25  (sg : Hp) (x1 : Int32) (x2 : Int32) (x3 : Int32) (x4 : Int32) : Option (Int32 × Hp) :=
  if x3 < (0 : Int32) then
    some ((-2 : Int32), sg)
  else
    if (30 : Int32) < x3 then
      some ((-2 : Int32), sg)
    else
      if x4 < (0 : Int32) then
        some ((-2 : Int32), sg)
      else
        if x4 ≤ (1 : Int32) then
          (f_Box_standBehind sg (0 : Int32)).bind fun y3 =>
            f_Box_snail_78  LF y3 x1 x2 x3 x4 (y3 33 5) (y3 33 6) (0 : Int32) (0 : Int32)
        else
          some ((-2 : Int32), sg)
def f_Box_snail (sg : Hp) (x1 : Int32) (x2 : Int32) (x3 : Int32) (x4 : Int32) : Option (Int32 × Hp) :=
  (f_Box_isSlope sg x1).bind fun y1 =>
    if y1.1 = (0 : Int32) then
      some ((-2 : Int32), y1.2)
    else
      (f_Box_isSlope y1.2 x2).bind fun y2 =>
        if y2.1 = (0 : Int32) then
          some ((-2 : Int32), y2.2)
        else
          if x1 = (0 : Int32) then
            if x2 = (0 : Int32) then
              some ((-2 : Int32), y2.2)
            else
              f_Box_snail_25  y2.2 x1 x2 x3 x4
          else
            f_Box_snail_25  y2.2 x1 x2 x3 x4
/-! BoxSpiderModel.snailOf, method 173 -/
def f_Mod_snailOf_217 (k26 : Hp → Int32 → Int32 → Int32 → Int32 → Int32 → Int32 → Int32 → Int32 → Option (Int32 × Hp)) : Nat → Hp → Int32 → Int32 → Int32 → Int32 → Int32 → Int32 → Int32 → Int32 → Int32 → Option (Int32 × Hp)
  | 0, _, _, _, _, _, _, _, _, _, _ => none
  | n + 1, sg, x1, x2, x3, x4, x5, x6, x7, x8, x14 =>
    if (14 : Int32) ≤ x14 then
      k26 sg x1 x2 x3 x4 x5 x6 x7 (x8 + (1 : Int32))
    else
      if inb ((14 : Int32) + x14) 560 = true then
        if inb x14 560 = true then
          f_Mod_snailOf_217 k26 n (w2 sg 55 (x14).toNatClampNeg (sg 55 (((14 : Int32) + x14)).toNatClampNeg)) x1 x2 x3 x4 x5 x6 x7 x8 (x14 + (1 : Int32))
        else none
      else none
def f_Mod_snailOf_205 (k26 : Hp → Int32 → Int32 → Int32 → Int32 → Int32 → Int32 → Int32 → Int32 → Option (Int32 × Hp)) (sg : Hp) (x1 : Int32) (x2 : Int32) (x3 : Int32) (x4 : Int32) (x5 : Int32) (x6 : Int32) (x8 : Int32) (xs0 : Int32) : Option (Int32 × Hp) :=
  (f_Mod_turns sg (0 : Int32) xs0).bind fun y5 =>
    f_Mod_snailOf_217 k26 LF y5 x1 x2 x3 x4 x5 x6 xs0 x8 (0 : Int32)
def f_Mod_snailOf_177 (k26 : Hp → Int32 → Int32 → Int32 → Int32 → Int32 → Int32 → Int32 → Int32 → Option (Int32 × Hp)) (sg : Hp) (x1 : Int32) (x2 : Int32) (x3 : Int32) (x4 : Int32) (x5 : Int32) (x6 : Int32) (x8 : Int32) (xs0 : Int32) : Option (Int32 × Hp) :=
  if xs0 = (0 : Int32) then
    if x2 ≤ (0 : Int32) then
      f_Mod_snailOf_205 k26 sg x1 x2 x3 x4 x5 x6 x8 (3 : Int32)
    else
      f_Mod_snailOf_205 k26 sg x1 x2 x3 x4 x5 x6 x8 (2 : Int32)
  else
    if x1 ≤ (0 : Int32) then
      f_Mod_snailOf_205 k26 sg x1 x2 x3 x4 x5 x6 x8 (1 : Int32)
    else
      f_Mod_snailOf_205 k26 sg x1 x2 x3 x4 x5 x6 x8 (0 : Int32)
def f_Mod_snailOf_172 (k26 : Hp → Int32 → Int32 → Int32 → Int32 → Int32 → Int32 → Int32 → Int32 → Option (Int32 × Hp)) (sg : Hp) (x1 : Int32) (x2 : Int32) (x3 : Int32) (x4 : Int32) (x5 : Int32) (x6 : Int32) (x8 : Int32) : Option (Int32 × Hp) :=
  f_Mod_snailOf_177 k26 sg x1 x2 x3 x4 x5 x6 x8 (1 : Int32)
def f_Mod_snailOf_176 (k26 : Hp → Int32 → Int32 → Int32 → Int32 → Int32 → Int32 → Int32 → Int32 → Option (Int32 × Hp)) (sg : Hp) (x1 : Int32) (x2 : Int32) (x3 : Int32) (x4 : Int32) (x5 : Int32) (x6 : Int32) (x8 : Int32) : Option (Int32 × Hp) :=
  f_Mod_snailOf_177 k26 sg x1 x2 x3 x4 x5 x6 x8 (0 : Int32)
def f_Mod_snailOf_157 (k26 : Hp → Int32 → Int32 → Int32 → Int32 → Int32 → Int32 → Int32 → Int32 → Option (Int32 × Hp)) (sg : Hp) (x1 : Int32) (x2 : Int32) (x3 : Int32) (x4 : Int32) (x5 : Int32) (x6 : Int32) (x8 : Int32) (x11 : Int32) (x12 : Int32) : Option (Int32 × Hp) :=
  if x2 = (0 : Int32) then
    f_Mod_snailOf_172 k26 sg x1 x2 x3 x4 x5 x6 x8
  else
    if x1 = (0 : Int32) then
      f_Mod_snailOf_176 k26 sg x1 x2 x3 x4 x5 x6 x8
    else
      if x12 ≤ x11 then
        f_Mod_snailOf_176 k26 sg x1 x2 x3 x4 x5 x6 x8
      else
        f_Mod_snailOf_172 k26 sg x1 x2 x3 x4 x5 x6 x8
def f_Mod_snailOf_137 (k26 : Hp → Int32 → Int32 → Int32 → Int32 → Int32 → Int32 → Int32 → Int32 → Option (Int32 × Hp)) (sg : Hp) (x1 : Int32) (x2 : Int32) (x3 : Int32) (x4 : Int32) (x5 : Int32) (x6 : Int32) (x8 : Int32) (x11 : Int32) (xs0 : Int32) (xs1 : Int32) : Option (Int32 × Hp) :=
  if x1 = (0 : Int32) then
    f_Mod_snailOf_157 k26 sg x1 x2 x3 x4 x5 x6 x8 x11 (xs0 * xs1)
  else
    if x2 = (0 : Int32) then
      f_Mod_snailOf_157 k26 sg x1 x2 x3 x4 x5 x6 x8 x11 (xs0 * xs1)
    else
      if x11 = (xs0 * xs1) then
        some ((-1 : Int32), sg)
      else
        f_Mod_snailOf_157 k26 sg x1 x2 x3 x4 x5 x6 x8 x11 (xs0 * xs1)
def f_Mod_snailOf_127 (k26 : Hp → Int32 → Int32 → Int32 → Int32 → Int32 → Int32 → Int32 → Int32 → Option (Int32 × Hp)) (sg : Hp) (x1 : Int32) (x2 : Int32) (x3 : Int32) (x4 : Int32) (x5 : Int32) (x6 : Int32) (x8 : Int32) (x11 : Int32) (xs0 : Int32) : Option (Int32 × Hp) :=
  if (0 : Int32) ≤ x1 then
    f_Mod_snailOf_137 k26 sg x1 x2 x3 x4 x5 x6 x8 x11 xs0 x1
  else
    f_Mod_snailOf_137 k26 sg x1 x2 x3 x4 x5 x6 x8 x11 xs0 (-x1)
def f_Mod_snailOf_111 (k26 : Hp → Int32 → Int32 → Int32 → Int32 → Int32 → Int32 → Int32 → Int32 → Option (Int32 × Hp)) (sg : Hp) (x1 : Int32) (x2 : Int32) (x3 : Int32) (x4 : Int32) (x5 : Int32) (x6 : Int32) (x8 : Int32) (x10 : Int32) (xs0 : Int32) (xs1 : Int32) : Option (Int32 × Hp) :=
  if (0 : Int32) ≤ x10 then
    f_Mod_snailOf_127 k26 sg x1 x2 x3 x4 x5 x6 x8 (xs0 * xs1) x10
  else
    f_Mod_snailOf_127 k26 sg x1 x2 x3 x4 x5 x6 x8 (xs0 * xs1) (-x10)
def f_Mod_snailOf_101 (k26 : Hp → Int32 → Int32 → Int32 → Int32 → Int32 → Int32 → Int32 → Int32 → Option (Int32 × Hp)) (sg : Hp) (x1 : Int32) (x2 : Int32) (x3 : Int32) (x4 : Int32) (x5 : Int32) (x6 : Int32) (x8 : Int32) (x10 : Int32) (xs0 : Int32) : Option (Int32 × Hp) :=
  if (0 : Int32) ≤ x2 then
    f_Mod_snailOf_111 k26 sg x1 x2 x3 x4 x5 x6 x8 x10 xs0 x2
  else
    f_Mod_snailOf_111 k26 sg x1 x2 x3 x4 x5 x6 x8 x10 xs0 (-x2)
def f_Mod_snailOf_81 (k26 : Hp → Int32 → Int32 → Int32 → Int32 → Int32 → Int32 → Int32 → Int32 → Option (Int32 × Hp)) (sg : Hp) (x1 : Int32) (x2 : Int32) (x3 : Int32) (x4 : Int32) (x5 : Int32) (x6 : Int32) (x8 : Int32) (x9 : Int32) (xs0 : Int32) (xs1 : Int32) (xs2 : Int32) : Option (Int32 × Hp) :=
  if (0 : Int32) ≤ x9 then
    f_Mod_snailOf_101 k26 sg x1 x2 x3 x4 x5 x6 x8 ((xs0 * (xs1 + xs2)) - x6) x9
  else
    f_Mod_snailOf_101 k26 sg x1 x2 x3 x4 x5 x6 x8 ((xs0 * (xs1 + xs2)) - x6) (-x9)
def f_Mod_snailOf_53 (k26 : Hp → Int32 → Int32 → Int32 → Int32 → Int32 → Int32 → Int32 → Int32 → Option (Int32 × Hp)) (sg : Hp) (x1 : Int32) (x2 : Int32) (x3 : Int32) (x4 : Int32) (x5 : Int32) (x6 : Int32) (x8 : Int32) (xs0 : Int32) (xs1 : Int32) (xs2 : Int32) : Option (Int32 × Hp) :=
  (f_Mod_southWest sg (0 : Int32) (1 : Int32)).bind fun y4 =>
    if x2 ≤ (0 : Int32) then
      f_Mod_snailOf_81 k26 y4.2 x1 x2 x3 x4 x5 x6 x8 ((xs0 * (xs1 + xs2)) - x5) (2 : Int32) y4.1 (0 : Int32)
    else
      (f_Mod_far y4.2 (0 : Int32) (3 : Int32)).bind fun y8 =>
        f_Mod_snailOf_81 k26 y8.2 x1 x2 x3 x4 x5 x6 x8 ((xs0 * (xs1 + xs2)) - x5) (2 : Int32) y4.1 y8.1
def f_Mod_snailOf_26  : Nat → Hp → Int32 → Int32 → Int32 → Int32 → Int32 → Int32 → Int32 → Int32 → Option (Int32 × Hp)
  | 0, _, _, _, _, _, _, _, _, _ => none
  | n + 1, sg, x1, x2, x3, x4, x5, x6, x7, x8 =>
    if x3 ≤ x8 then
      if x4 = (0 : Int32) then
        (f_Mod_faceAt sg (0 : Int32)).bind fun y2 =>
          some (y2.1, y2.2)
      else
        some ((x7 + (1 : Int32)), sg)
    else
      (f_Mod_southWest sg (0 : Int32) (0 : Int32)).bind fun y3 =>
        if x1 ≤ (0 : Int32) then
          f_Mod_snailOf_53 (f_Mod_snailOf_26 n) y3.2 x1 x2 x3 x4 x5 x6 x8 (2 : Int32) y3.1 (0 : Int32)
        else
          (f_Mod_far y3.2 (0 : Int32) (0 : Int32)).bind fun y9 =>
            f_Mod_snailOf_53 (f_Mod_snailOf_26 n) y9.2 x1 x2 x3 x4 x5 x6 x8 (2 : Int32) y3.1 y9.1
def f_Mod_snailOf (sg : Hp) (x1 : Int32) (x2 : Int32) (x3 : Int32) (x4 : Int32) : Option (Int32 × Hp) :=
  (f_Mod_begins sg ).bind fun y1 =>
    f_Mod_snailOf_26  LF y1 x1 x2 x3 x4 (y1 51 0) (y1 51 1) (-1 : Int32) (0 : Int32)
/-! BoxSpiderModel.snail, method 172 -/
def f_Mod_snail_41  (sg : Hp) (x1 : Int32) (x2 : Int32) (x3 : Int32) (x4 : Int32) (xs0 : Int32) : Option (Int32 × Hp) :=
  if xs0 = (0 : Int32) then
    some ((-2 : Int32), sg)
  else
    (f_Mod_in sg (x3).toInt64 (0 : Int64) (30 : Int64)).bind fun y2 =>
      if y2.1 = (0 : Int32) then
        some ((-2 : Int32), y2.2)
      else
        (f_Mod_isTwo y2.2 x4).bind fun y3 =>
          if y3.1 = (0 : Int32) then
            some ((-2 : Int32), y3.2)
          else
            (f_Mod_snailOf y3.2 x1 x2 x3 x4).bind fun y4 =>
              some (y4.1, y4.2)
def f_Mod_snail_40  (sg : Hp) (x1 : Int32) (x2 : Int32) (x3 : Int32) (x4 : Int32) : Option (Int32 × Hp) :=
  f_Mod_snail_41  sg x1 x2 x3 x4 (0 : Int32)
def f_Mod_snail_36  (sg : Hp) (x1 : Int32) (x2 : Int32) (x3 : Int32) (x4 : Int32) : Option (Int32 × Hp) :=
  f_Mod_snail_41  sg x1 x2 x3 x4 (1 : Int32)
def f_Mod_snail (sg : Hp) (x1 : Int32) (x2 : Int32) (x3 : Int32) (x4 : Int32) : Option (Int32 × Hp) :=
  (f_Mod_in sg (x1).toInt64 (-9 : Int64) (9 : Int64)).bind fun y1 =>
    if y1.1 = (0 : Int32) then
      f_Mod_snail_40  y1.2 x1 x2 x3 x4
    else
      (f_Mod_in y1.2 (x2).toInt64 (-9 : Int64) (9 : Int64)).bind fun y5 =>
        if y5.1 = (0 : Int32) then
          f_Mod_snail_40  y5.2 x1 x2 x3 x4
        else
          if x1 = (0 : Int32) then
            if x2 = (0 : Int32) then
              f_Mod_snail_40  y5.2 x1 x2 x3 x4
            else
              f_Mod_snail_36  y5.2 x1 x2 x3 x4
          else
            f_Mod_snail_36  y5.2 x1 x2 x3 x4
/-! BoxSpider.lengthIfHigh, method 79 -/
def f_Box_lengthIfHigh (sg : Hp) (x1 : Int32) (x2 : Int32) (x3 : Int32) : Option (Int32 × Hp) :=
  if cpok (0 : Int32) (0 : Int32) (3 : Int32) 3 3 = true then
    if inb x1 8 = true then
      if inb x1 8 = true then
        if inb x1 8 = true then
          (f_Spot_set (w2 (cp2 sg 2 37 (0 : Int32) (0 : Int32) (3 : Int32)) 37 0 x3) 12 37 ((w2 (cp2 sg 2 37 (0 : Int32) (0 : Int32) (3 : Int32)) 37 0 x3) 3 (x1).toNatClampNeg) ((w2 (cp2 sg 2 37 (0 : Int32) (0 : Int32) (3 : Int32)) 37 0 x3) 4 (x1).toNatClampNeg) ((w2 (cp2 sg 2 37 (0 : Int32) (0 : Int32) (3 : Int32)) 37 0 x3) 5 (x1).toNatClampNeg)).bind fun y5 =>
            if inb x2 8 = true then
              if inb x2 8 = true then
                if inb x2 8 = true then
                  (f_Spot_set y5 14 37 (y5 3 (x2).toNatClampNeg) (y5 4 (x2).toNatClampNeg) (y5 5 (x2).toNatClampNeg)).bind fun y9 =>
                    (f_Spot_isOnBox y9 12).bind fun y10 =>
                      if y10.1 = (0 : Int32) then
                        some ((-3 : Int32), y10.2)
                      else
                        (f_Spot_isOnBox y10.2 14).bind fun y11 =>
                          if y11.1 = (0 : Int32) then
                            some ((-3 : Int32), y11.2)
                          else
                            (f_Search_find y11.2 37).bind fun y12 =>
                              some ((y12 11 7), y12)
                else none
              else none
            else none
        else none
      else none
    else none
  else none
/-! BoxSpider.thread, method 78 -/
def f_Box_thread_70 (k45 : Hp → Int32 → Int32 → Int32 → Int32 → Int32 → Int32 → Int32 → Option (Int32 × Hp)) (sg : Hp) (x1 : Int32) (x2 : Int32) (x3 : Int32) (x4 : Int32) (x5 : Int32) (x6 : Int32) (x7 : Int32) : Option (Int32 × Hp) :=
  k45 sg x1 x2 x3 x4 x5 x6 (x7 + (-1 : Int32))
def f_Box_thread_45  : Nat → Hp → Int32 → Int32 → Int32 → Int32 → Int32 → Int32 → Int32 → Option (Int32 × Hp)
  | 0, _, _, _, _, _, _, _, _ => none
  | n + 1, sg, x1, x2, x3, x4, x5, x6, x7 =>
    if x7 < (1 : Int32) then
      if x4 = (0 : Int32) then
        some (x5, sg)
      else
        some (x6, sg)
    else
      (f_Box_lengthIfHigh sg x1 x2 x7).bind fun y4 =>
        if y4.1 = x3 then
          f_Box_thread_70 (f_Box_thread_45 n) y4.2 x1 x2 x3 x4 (x5 + (1 : Int32)) x7 x7
        else
          f_Box_thread_70 (f_Box_thread_45 n) y4.2 x1 x2 x3 x4 x5 x6 x7
def f_Box_thread (sg : Hp) (x1 : Int32) (x2 : Int32) (x3 : Int32) (x4 : Int32) : Option (Int32 × Hp) :=
  (f_Box_isPlace sg x1).bind fun y1 =>
    if y1.1 = (0 : Int32) then
      some ((-2 : Int32), y1.2)
    else
      (f_Box_isPlace y1.2 x2).bind fun y2 =>
        if y2.1 = (0 : Int32) then
          some ((-2 : Int32), y2.2)
        else
          (f_Box_isLength y2.2 x3).bind fun y3 =>
            if y3.1 = (0 : Int32) then
              some ((-2 : Int32), y3.2)
            else
              if x4 < (0 : Int32) then
                some ((-2 : Int32), y3.2)
              else
                if x4 ≤ (1 : Int32) then
                  f_Box_thread_45  LF y3.2 x1 x2 x3 x4 (0 : Int32) (-1 : Int32) (30 : Int32)
                else
                  some ((-2 : Int32), y3.2)
/-! BoxSpiderModel.threadOf, method 175 -/
def f_Mod_threadOf_76 (k17 : Hp → Int32 → Int32 → Int32 → Int32 → Int32 → Int32 → Int32 → Int32 → Option (Int32 × Hp)) (sg : Hp) (x1 : Int32) (x2 : Int32) (x3 : Int32) (x4 : Int32) (x5 : Int32) (x6 : Int32) (x7 : Int32) (x8 : Int32) : Option (Int32 × Hp) :=
  k17 sg x1 x2 x3 x4 x5 x6 x7 (x8 + (1 : Int32))
def f_Mod_threadOf_74 (k17 : Hp → Int32 → Int32 → Int32 → Int32 → Int32 → Int32 → Int32 → Int32 → Option (Int32 × Hp)) (sg : Hp) (x1 : Int32) (x2 : Int32) (x3 : Int32) (x4 : Int32) (x5 : Int32) (x6 : Int32) (x8 : Int32) (xs0 : Int32) : Option (Int32 × Hp) :=
  f_Mod_threadOf_76 k17 sg x1 x2 x3 x4 x5 x6 xs0 x8
def f_Mod_threadOf_17  : Nat → Hp → Int32 → Int32 → Int32 → Int32 → Int32 → Int32 → Int32 → Int32 → Option (Int32 × Hp)
  | 0, _, _, _, _, _, _, _, _, _ => none
  | n + 1, sg, x1, x2, x3, x4, x5, x6, x7, x8 =>
    if (30 : Int32) < x8 then
      if x4 = (0 : Int32) then
        some (x6, (w2 sg 51 2 x5))
      else
        some (x7, (w2 sg 51 2 x5))
    else
      (f_Mod_isThere (w2 sg 51 2 x8) x1).bind fun y1 =>
        if y1.1 = (0 : Int32) then
          f_Mod_threadOf_76 (f_Mod_threadOf_17 n) y1.2 x1 x2 x3 x4 x5 x6 x7 x8
        else
          (f_Mod_isThere y1.2 x2).bind fun y2 =>
            if y2.1 = (0 : Int32) then
              f_Mod_threadOf_76 (f_Mod_threadOf_17 n) y2.2 x1 x2 x3 x4 x5 x6 x7 x8
            else
              (f_Mod_shortestOf y2.2 x1 x2).bind fun y3 =>
                if y3.1 = x3 then
                  if x7 = (-1 : Int32) then
                    f_Mod_threadOf_74 (f_Mod_threadOf_17 n) y3.2 x1 x2 x3 x4 x5 (x6 + (1 : Int32)) x8 x8
                  else
                    f_Mod_threadOf_74 (f_Mod_threadOf_17 n) y3.2 x1 x2 x3 x4 x5 (x6 + (1 : Int32)) x8 x7
                else
                  f_Mod_threadOf_76 (f_Mod_threadOf_17 n) y3.2 x1 x2 x3 x4 x5 x6 x7 x8
def f_Mod_threadOf (sg : Hp) (x1 : Int32) (x2 : Int32) (x3 : Int32) (x4 : Int32) : Option (Int32 × Hp) :=
  f_Mod_threadOf_17  LF sg x1 x2 x3 x4 (sg 51 2) (0 : Int32) (-1 : Int32) (1 : Int32)
/-! BoxSpiderModel.thread, method 174 -/
def f_Mod_thread (sg : Hp) (x1 : Int32) (x2 : Int32) (x3 : Int32) (x4 : Int32) : Option (Int32 × Hp) :=
  (f_Mod_isPlace sg x1).bind fun y1 =>
    if y1.1 = (0 : Int32) then
      some ((-2 : Int32), y1.2)
    else
      (f_Mod_isPlace y1.2 x2).bind fun y2 =>
        if y2.1 = (0 : Int32) then
          some ((-2 : Int32), y2.2)
        else
          (f_Mod_in y2.2 (x3).toInt64 (0 : Int64) (9999 : Int64)).bind fun y3 =>
            if y3.1 = (0 : Int32) then
              some ((-2 : Int32), y3.2)
            else
              (f_Mod_isTwo y3.2 x4).bind fun y4 =>
                if y4.1 = (0 : Int32) then
                  some ((-2 : Int32), y4.2)
                else
                  (f_Mod_threadOf y4.2 x1 x2 x3 x4).bind fun y5 =>
                    some (y5.1, y5.2)
/-! BoxSpider.flies, method 80 -/
def f_Box_flies_76 (k37 : Hp → Int32 → Int32 → Int32 → Int32 → Int32 → Int32 → Option (Int32 × Hp)) (sg : Hp) (x1 : Int32) (x3 : Int32) (x4 : Int32) (x5 : Int32) (x6 : Int32) (x7 : Int32) : Option (Int32 × Hp) :=
  k37 sg x1 x3 x4 x5 x6 (x7 + (1 : Int32))
def f_Box_flies_37  : Nat → Hp → Int32 → Int32 → Int32 → Int32 → Int32 → Int32 → Option (Int32 × Hp)
  | 0, _, _, _, _, _, _, _ => none
  | n + 1, sg, x1, x3, x4, x5, x6, x7 =>
    if x3 ≤ x7 then
      some (x5, sg)
    else
      (f_Box_isNear sg x1 (((((1103515245 : Int32) * x6) + (12345 : Int32)).toUInt32 >>> ((16 : Int32).toUInt32 &&& Int32.toUInt32 31)).toInt32 - ((((1103515245 : Int32) * x6) + (12345 : Int32)).toUInt32 >>> ((16 : Int32).toUInt32 &&& Int32.toUInt32 31)).toInt32 / (8 : Int32) * (8 : Int32)) x4).bind fun y3 =>
        if y3.1 = (0 : Int32) then
          f_Box_flies_76 (f_Box_flies_37 n) y3.2 x1 x3 x4 x5 (((1103515245 : Int32) * x6) + (12345 : Int32)) x7
        else
          f_Box_flies_76 (f_Box_flies_37 n) y3.2 x1 x3 x4 (x5 + (1 : Int32)) (((1103515245 : Int32) * x6) + (12345 : Int32)) x7
def f_Box_flies (sg : Hp) (x1 : Int32) (x2 : Int32) (x3 : Int32) (x4 : Int32) : Option (Int32 × Hp) :=
  (f_Box_isPlace sg x1).bind fun y1 =>
    if y1.1 = (0 : Int32) then
      some ((-2 : Int32), y1.2)
    else
      if x3 < (0 : Int32) then
        some ((-2 : Int32), y1.2)
      else
        if (99 : Int32) < x3 then
          some ((-2 : Int32), y1.2)
        else
          (f_Box_isLength y1.2 x4).bind fun y2 =>
            if y2.1 = (0 : Int32) then
              some ((-2 : Int32), y2.2)
            else
              f_Box_flies_37  LF y2.2 x1 x3 x4 (0 : Int32) x2 (0 : Int32)
/-! BoxSpiderModel.fliesOf, method 177 -/
def f_Mod_fliesOf_55  : Nat → Hp → Int32 → Int32 → Int32 → Int32 → Option (Int32 × Hp)
  | 0, _, _, _, _, _ => none
  | n + 1, sg, x3, x5, x6, x7 =>
    if x3 ≤ x7 then
      some (x6, sg)
    else
      if inb (((((1103515245 : Int32) * x5) + (12345 : Int32)).toUInt32 >>> ((16 : Int32).toUInt32 &&& Int32.toUInt32 31)).toInt32 - ((((1103515245 : Int32) * x5) + (12345 : Int32)).toUInt32 >>> ((16 : Int32).toUInt32 &&& Int32.toUInt32 31)).toInt32 / (8 : Int32) * (8 : Int32)) 8 = true then
        f_Mod_fliesOf_55 n sg x3 (((1103515245 : Int32) * x5) + (12345 : Int32)) (x6 + (sg 62 ((((((1103515245 : Int32) * x5) + (12345 : Int32)).toUInt32 >>> ((16 : Int32).toUInt32 &&& Int32.toUInt32 31)).toInt32 - ((((1103515245 : Int32) * x5) + (12345 : Int32)).toUInt32 >>> ((16 : Int32).toUInt32 &&& Int32.toUInt32 31)).toInt32 / (8 : Int32) * (8 : Int32))).toNatClampNeg)) (x7 + (1 : Int32))
      else none
def f_Mod_fliesOf_39 (k3 : Hp → Int32 → Int32 → Int32 → Int32 → Int32 → Option (Int32 × Hp)) (sg : Hp) (x1 : Int32) (x2 : Int32) (x3 : Int32) (x4 : Int32) (x5 : Int32) (xs1 : Int32) (xs2 : Int32) : Option (Int32 × Hp) :=
  if inb xs1 8 = true then
    k3 (w2 sg 62 (xs1).toNatClampNeg xs2) x1 x2 x3 x4 (x5 + (1 : Int32))
  else none
def f_Mod_fliesOf_3  : Nat → Hp → Int32 → Int32 → Int32 → Int32 → Int32 → Option (Int32 × Hp)
  | 0, _, _, _, _, _, _ => none
  | n + 1, sg, x1, x2, x3, x4, x5 =>
    if (8 : Int32) ≤ x5 then
      f_Mod_fliesOf_55  LF sg x3 x2 (0 : Int32) (0 : Int32)
    else
      (f_Mod_shortestOf sg x1 x5).bind fun y2 =>
        (f_Mod_in y2.2 (y2.1).toInt64 (0 : Int64) (x4).toInt64).bind fun y3 =>
          if y3.1 = (0 : Int32) then
            f_Mod_fliesOf_39 (f_Mod_fliesOf_3 n) y3.2 x1 x2 x3 x4 x5 x5 (0 : Int32)
          else
            f_Mod_fliesOf_39 (f_Mod_fliesOf_3 n) y3.2 x1 x2 x3 x4 x5 x5 (1 : Int32)
def f_Mod_fliesOf (sg : Hp) (x1 : Int32) (x2 : Int32) (x3 : Int32) (x4 : Int32) : Option (Int32 × Hp) :=
  f_Mod_fliesOf_3  LF sg x1 x2 x3 x4 (0 : Int32)
/-! BoxSpiderModel.flies, method 176 -/
def f_Mod_flies (sg : Hp) (x1 : Int32) (x2 : Int32) (x3 : Int32) (x4 : Int32) : Option (Int32 × Hp) :=
  (f_Mod_isPlace sg x1).bind fun y1 =>
    if y1.1 = (0 : Int32) then
      some ((-2 : Int32), y1.2)
    else
      (f_Mod_in y1.2 (x3).toInt64 (0 : Int64) (99 : Int64)).bind fun y2 =>
        if y2.1 = (0 : Int32) then
          some ((-2 : Int32), y2.2)
        else
          (f_Mod_in y2.2 (x4).toInt64 (0 : Int64) (9999 : Int64)).bind fun y3 =>
            if y3.1 = (0 : Int32) then
              some ((-2 : Int32), y3.2)
            else
              (f_Mod_fliesOf y3.2 x1 x2 x3 x4).bind fun y4 =>
                some (y4.1, y4.2)
/-! BoxSpider.isForm, method 82 -/
def f_Box_isForm (sg : Hp) (x0 : Int32) : Option (Int32 × Hp) :=
  if x0 < (0 : Int32) then
    some ((0 : Int32), sg)
  else
    if (3 : Int32) ≤ x0 then
      some ((0 : Int32), sg)
    else
      some ((1 : Int32), sg)
/-! BoxSpider$Sheet.renew, method 83 -/
def f_Sheet_renew_12  : Nat → Hp → Nat → Int32 → Option (Hp)
  | 0, _, _, _ => none
  | n + 1, sg, a0, x3 =>
    if (60 : Int32) ≤ x3 then
      some sg
    else
      if inb x3 60 = true then
        f_Sheet_renew_12 n (w2 sg (rt a0 0) (x3).toNatClampNeg (0 : Int32)) a0 (x3 + (1 : Int32))
      else none
def f_Sheet_renew (sg : Hp) (a0 : Nat) (x1 : Int32) (x2 : Int32) : Option (Hp) :=
  f_Sheet_renew_12  LF (w2 (w2 sg a0 1 x1) a0 2 x2) a0 (0 : Int32)
/-! BoxSpider.sheet, method 81 -/
def f_Box_sheet (sg : Hp) (x1 : Int32) (x2 : Int32) (x3 : Int32) : Option (Int32 × Hp) :=
  (f_Box_isSheet sg x1).bind fun y1 =>
    if y1.1 = (0 : Int32) then
      some ((-2 : Int32), y1.2)
    else
      (f_Box_isForm y1.2 x2).bind fun y2 =>
        if y2.1 = (0 : Int32) then
          some ((-2 : Int32), y2.2)
        else
          if x3 ≤ (60 : Int32) then
            if (0 : Int32) ≤ x3 then
              if inb x1 4 = true then
                (f_Sheet_renew y2.2 (rt 32 (x1).toNatClampNeg) x2 x3).bind fun y4 =>
                  some (x3, y4)
              else none
            else
              (f_Box_found y2.2 (5 : Int32)).bind fun y5 =>
                some (y5.1, y5.2)
          else
            some ((-2 : Int32), y2.2)
/-! BoxSpiderModel.sheet, method 99 -/
def f_Mod_sheet_55  : Nat → Hp → Int32 → Int32 → Int32 → Option (Int32 × Hp)
  | 0, _, _, _, _ => none
  | n + 1, sg, x1, x3, x4 =>
    if x3 ≤ x4 then
      some (x3, sg)
    else
      if inb (((60 : Int32) * x1) + x4) 240 = true then
        f_Mod_sheet_55 n (w2 sg 49 ((((60 : Int32) * x1) + x4)).toNatClampNeg (0 : Int32)) x1 x3 (x4 + (1 : Int32))
      else none
def f_Mod_sheet (sg : Hp) (x1 : Int32) (x2 : Int32) (x3 : Int32) : Option (Int32 × Hp) :=
  (f_Mod_isSheet sg x1).bind fun y1 =>
    if y1.1 = (0 : Int32) then
      some ((-2 : Int32), y1.2)
    else
      (f_Mod_in y1.2 (x2).toInt64 (0 : Int64) (2 : Int64)).bind fun y2 =>
        if y2.1 = (0 : Int32) then
          some ((-2 : Int32), y2.2)
        else
          if x3 ≤ (60 : Int32) then
            if (0 : Int32) ≤ x3 then
              if inb x1 4 = true then
                if inb x1 4 = true then
                  f_Mod_sheet_55  LF (w2 (w2 y2.2 47 (x1).toNatClampNeg x2) 48 (x1).toNatClampNeg x3) x1 x3 (0 : Int32)
                else none
              else none
            else
              (f_Mod_met y2.2 (5 : Int32)).bind fun y6 =>
                some (y6.1, y6.2)
          else
            some ((-2 : Int32), y2.2)
/-! BoxSpider.lose, method 84 -/
def f_Box_lose (sg : Hp) (x1 : Int32) : Option (Int32 × Hp) :=
  (f_Box_isSheet sg x1).bind fun y1 =>
    if y1.1 = (0 : Int32) then
      some ((-2 : Int32), y1.2)
    else
      if inb x1 4 = true then
        (f_Sheet_isLost y1.2 (rt 32 (x1).toNatClampNeg)).bind fun y3 =>
          if y3.1 = (0 : Int32) then
            some (((w2 y3.2 (rt 32 (x1).toNatClampNeg) 1 (-1 : Int32)) (rt 32 (x1).toNatClampNeg) 2), (w2 y3.2 (rt 32 (x1).toNatClampNeg) 1 (-1 : Int32)))
          else
            (f_Box_found y3.2 (1 : Int32)).bind fun y4 =>
              some (y4.1, y4.2)
      else none
/-! BoxSpiderModel.lose, method 103 -/
def f_Mod_lose (sg : Hp) (x1 : Int32) : Option (Int32 × Hp) :=
  (f_Mod_isSheet sg x1).bind fun y1 =>
    if y1.1 = (0 : Int32) then
      some ((-2 : Int32), y1.2)
    else
      if inb x1 4 = true then
        if (0 : Int32) ≤ (y1.2 47 (x1).toNatClampNeg) then
          if inb x1 4 = true then
            if inb x1 4 = true then
              some (((w2 y1.2 47 (x1).toNatClampNeg (-1 : Int32)) 48 (x1).toNatClampNeg), (w2 y1.2 47 (x1).toNatClampNeg (-1 : Int32)))
            else none
          else none
        else
          (f_Mod_met y1.2 (1 : Int32)).bind fun y5 =>
            some (y5.1, y5.2)
      else none
/-! BoxSpider$Sheet.findingAt, method 86 -/
def f_Sheet_findingAt_31  (sg : Hp)  : Option (Int32 × Hp) :=
  some ((2 : Int32), sg)
def f_Sheet_findingAt (sg : Hp) (a0 : Nat) (x1 : Int32) (x2 : Int32) : Option (Int32 × Hp) :=
  (f_Sheet_isLost sg a0).bind fun y1 =>
    if y1.1 = (0 : Int32) then
      if (y1.2 a0 1) = x1 then
        if x2 < (0 : Int32) then
          f_Sheet_findingAt_31  y1.2 
        else
          if x2 < (y1.2 a0 2) then
            some ((0 : Int32), y1.2)
          else
            f_Sheet_findingAt_31  y1.2 
      else
        some ((3 : Int32), y1.2)
    else
      some ((1 : Int32), y1.2)
/-! BoxSpider$Sheet.put, method 87 -/
def f_Sheet_put (sg : Hp) (a0 : Nat) (x1 : Int32) (x2 : Int32) : Option (Hp) :=
  if (sg a0 1) = (0 : Int32) then
    if inb x1 60 = true then
      some (w2 sg (rt a0 0) (x1).toNatClampNeg (x2).toInt8.toInt32)
    else none
  else
    if (sg a0 1) = (1 : Int32) then
      if inb x1 60 = true then
        some (w2 sg (rt a0 0) (x1).toNatClampNeg (x2).toInt16.toInt32)
      else none
    else
      if inb x1 60 = true then
        some (w2 sg (rt a0 0) (x1).toNatClampNeg x2)
      else none
/-! BoxSpider.lay, method 85 -/
def f_Box_lay (sg : Hp) (x1 : Int32) (x2 : Int32) (x3 : Int32) (x4 : Int32) : Option (Int32 × Hp) :=
  (f_Box_isSheet sg x1).bind fun y1 =>
    if y1.1 = (0 : Int32) then
      some ((-2 : Int32), y1.2)
    else
      (f_Box_isForm y1.2 x2).bind fun y2 =>
        if y2.1 = (0 : Int32) then
          some ((-2 : Int32), y2.2)
        else
          if inb x1 4 = true then
            (f_Sheet_findingAt y2.2 (rt 32 (x1).toNatClampNeg) x2 x3).bind fun y4 =>
              if y4.1 = (0 : Int32) then
                if inb x1 4 = true then
                  (f_Sheet_put y4.2 (rt 32 (x1).toNatClampNeg) x3 x4).bind fun y6 =>
                    some ((1 : Int32), y6)
                else none
              else
                (f_Box_found y4.2 y4.1).bind fun y7 =>
                  some (y7.1, y7.2)
          else none
/-! BoxSpiderModel.lacks, method 105 -/
def f_Mod_lacks (sg : Hp) (x1 : Int32) (x2 : Int32) (x3 : Int32) : Option (Int32 × Hp) :=
  if inb x1 4 = true then
    if (0 : Int32) ≤ (sg 47 (x1).toNatClampNeg) then
      if inb x1 4 = true then
        if (sg 47 (x1).toNatClampNeg) = x2 then
          if inb x1 4 = true then
            (f_Mod_in sg (x3).toInt64 (0 : Int64) (((sg 48 (x1).toNatClampNeg) - (1 : Int32))).toInt64).bind fun y4 =>
              if y4.1 = (0 : Int32) then
                (f_Mod_met y4.2 (2 : Int32)).bind fun y5 =>
                  some (y5.1, y5.2)
              else
                some ((0 : Int32), y4.2)
          else none
        else
          (f_Mod_met sg (3 : Int32)).bind fun y6 =>
            some (y6.1, y6.2)
      else none
    else
      (f_Mod_met sg (1 : Int32)).bind fun y7 =>
        some (y7.1, y7.2)
  else none
/-! BoxSpiderModel.cut, method 106 -/
def f_Mod_cut (sg : Hp) (x0 : Int32) (x1 : Int32) : Option (Int32 × Hp) :=
  if x0 = (0 : Int32) then
    some ((x1).toInt8.toInt32, sg)
  else
    if x0 = (1 : Int32) then
      some ((x1).toInt16.toInt32, sg)
    else
      some (x1, sg)
/-! BoxSpiderModel.lay, method 104 -/
def f_Mod_lay (sg : Hp) (x1 : Int32) (x2 : Int32) (x3 : Int32) (x4 : Int32) : Option (Int32 × Hp) :=
  (f_Mod_isSheet sg x1).bind fun y1 =>
    if y1.1 = (0 : Int32) then
      some ((-2 : Int32), y1.2)
    else
      (f_Mod_in y1.2 (x2).toInt64 (0 : Int64) (2 : Int64)).bind fun y2 =>
        if y2.1 = (0 : Int32) then
          some ((-2 : Int32), y2.2)
        else
          (f_Mod_lacks y2.2 x1 x2 x3).bind fun y3 =>
            if y3.1 = (0 : Int32) then
              (f_Mod_cut y3.2 x2 x4).bind fun y4 =>
                if inb (((60 : Int32) * x1) + x3) 240 = true then
                  some ((1 : Int32), (w2 y4.2 49 ((((60 : Int32) * x1) + x3)).toNatClampNeg y4.1))
                else none
            else
              some (y3.1, y3.2)
/-! BoxSpider.get, method 88 -/
def f_Box_get (sg : Hp) (x1 : Int32) (x2 : Int32) (x3 : Int32) : Option (Int32 × Hp) :=
  (f_Box_isSheet sg x1).bind fun y1 =>
    if y1.1 = (0 : Int32) then
      some ((-2147483648 : Int32), y1.2)
    else
      (f_Box_isForm y1.2 x2).bind fun y2 =>
        if y2.1 = (0 : Int32) then
          some ((-2147483648 : Int32), y2.2)
        else
          if inb x1 4 = true then
            (f_Sheet_findingAt y2.2 (rt 32 (x1).toNatClampNeg) x2 x3).bind fun y4 =>
              if y4.1 = (0 : Int32) then
                if inb x1 4 = true then
                  if inb x3 60 = true then
                    some ((y4.2 (rt (rt 32 (x1).toNatClampNeg) 0) (x3).toNatClampNeg), y4.2)
                  else none
                else none
              else
                some ((-2147483648 : Int32), (w2 y4.2 0 10 y4.1))
          else none
/-! BoxSpiderModel.get, method 107 -/
def f_Mod_get (sg : Hp) (x1 : Int32) (x2 : Int32) (x3 : Int32) : Option (Int32 × Hp) :=
  (f_Mod_isSheet sg x1).bind fun y1 =>
    if y1.1 = (0 : Int32) then
      some ((-2147483648 : Int32), y1.2)
    else
      (f_Mod_in y1.2 (x2).toInt64 (0 : Int64) (2 : Int64)).bind fun y2 =>
        if y2.1 = (0 : Int32) then
          some ((-2147483648 : Int32), y2.2)
        else
          (f_Mod_lacks y2.2 x1 x2 x3).bind fun y3 =>
            if y3.1 = (0 : Int32) then
              if inb (((60 : Int32) * x1) + x3) 240 = true then
                some ((y3.2 49 ((((60 : Int32) * x1) + x3)).toNatClampNeg), y3.2)
              else none
            else
              some ((-2147483648 : Int32), y3.2)
/-! BoxSpider$Sheet.hasRun, method 90 -/
def f_Sheet_hasRun (sg : Hp) (a0 : Nat) (x1 : Int32) (x2 : Int32) : Option (Int32 × Hp) :=
  if x1 < (0 : Int32) then
    some ((0 : Int32), sg)
  else
    if x2 < (0 : Int32) then
      some ((0 : Int32), sg)
    else
      if (sg a0 2) < x1 then
        some ((0 : Int32), sg)
      else
        if ((sg a0 2) - x1) < x2 then
          some ((0 : Int32), sg)
        else
          some ((1 : Int32), sg)
/-! BoxSpider.copy, method 89 -/
def f_Box_copy_49  (sg : Hp)  : Option (Int32 × Hp) :=
  (f_Box_found sg (1 : Int32)).bind fun y6 =>
    some (y6.1, y6.2)
def f_Box_copy_97  (sg : Hp)  : Option (Int32 × Hp) :=
  (f_Box_found sg (2 : Int32)).bind fun y9 =>
    some (y9.1, y9.2)
def f_Box_copy (sg : Hp) (x1 : Int32) (x2 : Int32) (x3 : Int32) (x4 : Int32) (x5 : Int32) : Option (Int32 × Hp) :=
  (f_Box_isSheet sg x1).bind fun y1 =>
    if y1.1 = (0 : Int32) then
      some ((-2 : Int32), y1.2)
    else
      (f_Box_isSheet y1.2 x3).bind fun y2 =>
        if y2.1 = (0 : Int32) then
          some ((-2 : Int32), y2.2)
        else
          if inb x1 4 = true then
            if inb x3 4 = true then
              (f_Sheet_isLost y2.2 (rt 32 (x1).toNatClampNeg)).bind fun y5 =>
                if y5.1 = (0 : Int32) then
                  (f_Sheet_isLost y5.2 (rt 32 (x3).toNatClampNeg)).bind fun y7 =>
                    if y7.1 = (0 : Int32) then
                      if (y7.2 (rt 32 (x1).toNatClampNeg) 1) = (y7.2 (rt 32 (x3).toNatClampNeg) 1) then
                        (f_Sheet_hasRun y7.2 (rt 32 (x1).toNatClampNeg) x2 x5).bind fun y8 =>
                          if y8.1 = (0 : Int32) then
                            f_Box_copy_97  y8.2 
                          else
                            (f_Sheet_hasRun y8.2 (rt 32 (x3).toNatClampNeg) x4 x5).bind fun y10 =>
                              if y10.1 = (0 : Int32) then
                                f_Box_copy_97  y10.2 
                              else
                                if cpok x2 x4 x5 60 60 = true then
                                  some ((1 : Int32), (cp2 y10.2 (rt (rt 32 (x1).toNatClampNeg) 0) (rt (rt 32 (x3).toNatClampNeg) 0) x2 x4 x5))
                                else none
                      else
                        (f_Box_found y7.2 (4 : Int32)).bind fun y12 =>
                          some (y12.1, y12.2)
                    else
                      f_Box_copy_49  y7.2 
                else
                  f_Box_copy_49  y5.2 
            else none
          else none
/-! BoxSpiderModel.copy, method 108 -/
def f_Mod_copy_35  (sg : Hp)  : Option (Int32 × Hp) :=
  (f_Mod_met sg (1 : Int32)).bind fun y4 =>
    some (y4.1, y4.2)
def f_Mod_copy_111  (sg : Hp)  : Option (Int32 × Hp) :=
  (f_Mod_met sg (2 : Int32)).bind fun y8 =>
    some (y8.1, y8.2)
def f_Mod_copy_157  : Nat → Hp → Int32 → Int32 → Int32 → Int32 → Option (Int32 × Hp)
  | 0, _, _, _, _, _ => none
  | n + 1, sg, x3, x4, x5, x6 =>
    if x5 ≤ x6 then
      some ((1 : Int32), sg)
    else
      if inb x6 60 = true then
        if inb ((((60 : Int32) * x3) + x4) + x6) 240 = true then
          f_Mod_copy_157 n (w2 sg 49 (((((60 : Int32) * x3) + x4) + x6)).toNatClampNeg (sg 50 (x6).toNatClampNeg)) x3 x4 x5 (x6 + (1 : Int32))
        else none
      else none
def f_Mod_copy_120  : Nat → Hp → Int32 → Int32 → Int32 → Int32 → Int32 → Int32 → Option (Int32 × Hp)
  | 0, _, _, _, _, _, _, _ => none
  | n + 1, sg, x1, x2, x3, x4, x5, x6 =>
    if x5 ≤ x6 then
      f_Mod_copy_157  LF sg x3 x4 x5 (0 : Int32)
    else
      if inb ((((60 : Int32) * x1) + x2) + x6) 240 = true then
        if inb x6 60 = true then
          f_Mod_copy_120 n (w2 sg 50 (x6).toNatClampNeg (sg 49 (((((60 : Int32) * x1) + x2) + x6)).toNatClampNeg)) x1 x2 x3 x4 x5 (x6 + (1 : Int32))
        else none
      else none
def f_Mod_copy (sg : Hp) (x1 : Int32) (x2 : Int32) (x3 : Int32) (x4 : Int32) (x5 : Int32) : Option (Int32 × Hp) :=
  (f_Mod_isSheet sg x1).bind fun y1 =>
    if y1.1 = (0 : Int32) then
      some ((-2 : Int32), y1.2)
    else
      (f_Mod_isSheet y1.2 x3).bind fun y2 =>
        if y2.1 = (0 : Int32) then
          some ((-2 : Int32), y2.2)
        else
          if inb x1 4 = true then
            if (y2.2 47 (x1).toNatClampNeg) < (0 : Int32) then
              f_Mod_copy_35  y2.2 
            else
              if inb x3 4 = true then
                if (0 : Int32) ≤ (y2.2 47 (x3).toNatClampNeg) then
                  if inb x1 4 = true then
                    if inb x3 4 = true then
                      if (y2.2 47 (x1).toNatClampNeg) = (y2.2 47 (x3).toNatClampNeg) then
                        if x2 < (0 : Int32) then
                          f_Mod_copy_111  y2.2 
                        else
                          if x4 < (0 : Int32) then
                            f_Mod_copy_111  y2.2 
                          else
                            if x5 < (0 : Int32) then
                              f_Mod_copy_111  y2.2 
                            else
                              if inb x1 4 = true then
                                if (0 : Int32) < (lg_cmp ((x2).toInt64 + (x5).toInt64) ((y2.2 48 (x1).toNatClampNeg)).toInt64) then
                                  f_Mod_copy_111  y2.2 
                                else
                                  if inb x3 4 = true then
                                    if (lg_cmp ((x4).toInt64 + (x5).toInt64) ((y2.2 48 (x3).toNatClampNeg)).toInt64) ≤ (0 : Int32) then
                                      f_Mod_copy_120  LF y2.2 x1 x2 x3 x4 x5 (0 : Int32)
                                    else
                                      f_Mod_copy_111  y2.2 
                                  else none
                              else none
                      else
                        (f_Mod_met y2.2 (4 : Int32)).bind fun y15 =>
                          some (y15.1, y15.2)
                    else none
                  else none
                else
                  f_Mod_copy_35  y2.2 
              else none
          else none
/-! BoxSpider.write, method 91 -/
def f_Box_write_51  : Nat → Hp → Int32 → Nat → Int32 → Int32 → Option (Int32 × Hp)
  | 0, _, _, _, _, _ => none
  | n + 1, sg, x1, a3, x4, x5 =>
    if x4 ≤ x5 then
      some (x4, sg)
    else
      (f_Table_look sg x1 x5).bind fun y5 =>
        if inb y5.1 64 = true then
          (f_Sheet_put y5.2 a3 x5 (y5.2 25 (y5.1).toNatClampNeg)).bind fun y7 =>
            f_Box_write_51 n y7 x1 a3 x4 (x5 + (1 : Int32))
        else none
def f_Box_write (sg : Hp) (x1 : Int32) (x2 : Int32) : Option (Int32 × Hp) :=
  (f_Box_isPlace sg x1).bind fun y1 =>
    if y1.1 = (0 : Int32) then
      some ((-2 : Int32), y1.2)
    else
      (f_Box_isSheet y1.2 x2).bind fun y2 =>
        if y2.1 = (0 : Int32) then
          some ((-2 : Int32), y2.2)
        else
          if inb x2 4 = true then
            (f_Sheet_isLost y2.2 (rt 32 (x2).toNatClampNeg)).bind fun y4 =>
              if y4.1 = (0 : Int32) then
                f_Box_write_51  LF y4.2 x1 (rt 32 (x2).toNatClampNeg) (if (8 : Int32) < (y4.2 (rt 32 (x2).toNatClampNeg) 2) then (8 : Int32) else (y4.2 (rt 32 (x2).toNatClampNeg) 2)) (0 : Int32)
              else
                (f_Box_found y4.2 (1 : Int32)).bind fun y8 =>
                  some (y8.1, y8.2)
          else none
/-! BoxSpiderModel.write, method 178 -/
def f_Mod_write_47  : Nat → Hp → Int32 → Int32 → Int32 → Int32 → Option (Int32 × Hp)
  | 0, _, _, _, _, _ => none
  | n + 1, sg, x1, x2, x3, x4 =>
    if x3 ≤ x4 then
      some (x3, sg)
    else
      if inb x2 4 = true then
        (f_Mod_shortestOf sg x1 x4).bind fun y7 =>
          (f_Mod_cut y7.2 (sg 47 (x2).toNatClampNeg) y7.1).bind fun y8 =>
            if inb (((60 : Int32) * x2) + x4) 240 = true then
              f_Mod_write_47 n (w2 y8.2 49 ((((60 : Int32) * x2) + x4)).toNatClampNeg y8.1) x1 x2 x3 (x4 + (1 : Int32))
            else none
      else none
def f_Mod_write (sg : Hp) (x1 : Int32) (x2 : Int32) : Option (Int32 × Hp) :=
  (f_Mod_isPlace sg x1).bind fun y1 =>
    if y1.1 = (0 : Int32) then
      some ((-2 : Int32), y1.2)
    else
      (f_Mod_isSheet y1.2 x2).bind fun y2 =>
        if y2.1 = (0 : Int32) then
          some ((-2 : Int32), y2.2)
        else
          if inb x2 4 = true then
            if (0 : Int32) ≤ (y2.2 47 (x2).toNatClampNeg) then
              if inb x2 4 = true then
                (f_Mod_lesser y2.2 (y2.2 48 (x2).toNatClampNeg) (8 : Int32)).bind fun y5 =>
                  f_Mod_write_47  LF y5.2 x1 x2 y5.1 (0 : Int32)
              else none
            else
              (f_Mod_met y2.2 (1 : Int32)).bind fun y10 =>
                some (y10.1, y10.2)
          else none
/-! java/lang/Integer.bitCount, method 94 -/
def f_Int_bitCount (sg : Hp) (x0 : Int32) : Option (Int32 × Hp) :=
  some (((((((((x0 - ((x0.toUInt32 >>> ((1 : Int32).toUInt32 &&& Int32.toUInt32 31)).toInt32 &&& (1431655765 : Int32))) &&& (858993459 : Int32)) + (((x0 - ((x0.toUInt32 >>> ((1 : Int32).toUInt32 &&& Int32.toUInt32 31)).toInt32 &&& (1431655765 : Int32))).toUInt32 >>> ((2 : Int32).toUInt32 &&& Int32.toUInt32 31)).toInt32 &&& (858993459 : Int32))) + ((((x0 - ((x0.toUInt32 >>> ((1 : Int32).toUInt32 &&& Int32.toUInt32 31)).toInt32 &&& (1431655765 : Int32))) &&& (858993459 : Int32)) + (((x0 - ((x0.toUInt32 >>> ((1 : Int32).toUInt32 &&& Int32.toUInt32 31)).toInt32 &&& (1431655765 : Int32))).toUInt32 >>> ((2 : Int32).toUInt32 &&& Int32.toUInt32 31)).toInt32 &&& (858993459 : Int32))).toUInt32 >>> ((4 : Int32).toUInt32 &&& Int32.toUInt32 31)).toInt32) &&& (252645135 : Int32)) + ((((((x0 - ((x0.toUInt32 >>> ((1 : Int32).toUInt32 &&& Int32.toUInt32 31)).toInt32 &&& (1431655765 : Int32))) &&& (858993459 : Int32)) + (((x0 - ((x0.toUInt32 >>> ((1 : Int32).toUInt32 &&& Int32.toUInt32 31)).toInt32 &&& (1431655765 : Int32))).toUInt32 >>> ((2 : Int32).toUInt32 &&& Int32.toUInt32 31)).toInt32 &&& (858993459 : Int32))) + ((((x0 - ((x0.toUInt32 >>> ((1 : Int32).toUInt32 &&& Int32.toUInt32 31)).toInt32 &&& (1431655765 : Int32))) &&& (858993459 : Int32)) + (((x0 - ((x0.toUInt32 >>> ((1 : Int32).toUInt32 &&& Int32.toUInt32 31)).toInt32 &&& (1431655765 : Int32))).toUInt32 >>> ((2 : Int32).toUInt32 &&& Int32.toUInt32 31)).toInt32 &&& (858993459 : Int32))).toUInt32 >>> ((4 : Int32).toUInt32 &&& Int32.toUInt32 31)).toInt32) &&& (252645135 : Int32)).toUInt32 >>> ((8 : Int32).toUInt32 &&& Int32.toUInt32 31)).toInt32) + (((((((x0 - ((x0.toUInt32 >>> ((1 : Int32).toUInt32 &&& Int32.toUInt32 31)).toInt32 &&& (1431655765 : Int32))) &&& (858993459 : Int32)) + (((x0 - ((x0.toUInt32 >>> ((1 : Int32).toUInt32 &&& Int32.toUInt32 31)).toInt32 &&& (1431655765 : Int32))).toUInt32 >>> ((2 : Int32).toUInt32 &&& Int32.toUInt32 31)).toInt32 &&& (858993459 : Int32))) + ((((x0 - ((x0.toUInt32 >>> ((1 : Int32).toUInt32 &&& Int32.toUInt32 31)).toInt32 &&& (1431655765 : Int32))) &&& (858993459 : Int32)) + (((x0 - ((x0.toUInt32 >>> ((1 : Int32).toUInt32 &&& Int32.toUInt32 31)).toInt32 &&& (1431655765 : Int32))).toUInt32 >>> ((2 : Int32).toUInt32 &&& Int32.toUInt32 31)).toInt32 &&& (858993459 : Int32))).toUInt32 >>> ((4 : Int32).toUInt32 &&& Int32.toUInt32 31)).toInt32) &&& (252645135 : Int32)) + ((((((x0 - ((x0.toUInt32 >>> ((1 : Int32).toUInt32 &&& Int32.toUInt32 31)).toInt32 &&& (1431655765 : Int32))) &&& (858993459 : Int32)) + (((x0 - ((x0.toUInt32 >>> ((1 : Int32).toUInt32 &&& Int32.toUInt32 31)).toInt32 &&& (1431655765 : Int32))).toUInt32 >>> ((2 : Int32).toUInt32 &&& Int32.toUInt32 31)).toInt32 &&& (858993459 : Int32))) + ((((x0 - ((x0.toUInt32 >>> ((1 : Int32).toUInt32 &&& Int32.toUInt32 31)).toInt32 &&& (1431655765 : Int32))) &&& (858993459 : Int32)) + (((x0 - ((x0.toUInt32 >>> ((1 : Int32).toUInt32 &&& Int32.toUInt32 31)).toInt32 &&& (1431655765 : Int32))).toUInt32 >>> ((2 : Int32).toUInt32 &&& Int32.toUInt32 31)).toInt32 &&& (858993459 : Int32))).toUInt32 >>> ((4 : Int32).toUInt32 &&& Int32.toUInt32 31)).toInt32) &&& (252645135 : Int32)).toUInt32 >>> ((8 : Int32).toUInt32 &&& Int32.toUInt32 31)).toInt32).toUInt32 >>> ((16 : Int32).toUInt32 &&& Int32.toUInt32 31)).toInt32) &&& (63 : Int32)), sg)
/-! BoxSpider$Room.barredEdges, method 93 -/
def f_Room_barredEdges_4  : Nat → Hp → Int32 → Int32 → Option (Int32 × Hp)
  | 0, _, _, _ => none
  | n + 1, sg, x1, x2 =>
    if (6 : Int32) ≤ x2 then
      some ((x1 / (2 : Int32)), sg)
    else
      if inb x2 6 = true then
        (f_Int_bitCount sg (sg 6 (x2).toNatClampNeg)).bind fun y2 =>
          f_Room_barredEdges_4 n y2.2 (x1 + y2.1) (x2 + (1 : Int32))
      else none
def f_Room_barredEdges (sg : Hp)  : Option (Int32 × Hp) :=
  f_Room_barredEdges_4  LF sg (0 : Int32) (0 : Int32)
/-! BoxSpider$Room.hasLikeBefore, method 96 -/
def f_Room_hasLikeBefore_54 (k2 : Hp → Int32 → Int32 → Option (Int32 × Hp)) (sg : Hp) (x1 : Int32) (x2 : Int32) : Option (Int32 × Hp) :=
  k2 sg x1 (x2 + (1 : Int32))
def f_Room_hasLikeBefore_2  : Nat → Hp → Int32 → Int32 → Option (Int32 × Hp)
  | 0, _, _, _ => none
  | n + 1, sg, x1, x2 =>
    if x1 ≤ x2 then
      some ((0 : Int32), sg)
    else
      if inb x2 8 = true then
        if inb x1 8 = true then
          if (sg 3 (x2).toNatClampNeg) = (sg 3 (x1).toNatClampNeg) then
            if inb x2 8 = true then
              if inb x1 8 = true then
                if (sg 4 (x2).toNatClampNeg) = (sg 4 (x1).toNatClampNeg) then
                  if inb x2 8 = true then
                    if inb x1 8 = true then
                      if (sg 5 (x2).toNatClampNeg) = (sg 5 (x1).toNatClampNeg) then
                        some ((1 : Int32), sg)
                      else
                        f_Room_hasLikeBefore_54 (f_Room_hasLikeBefore_2 n) sg x1 x2
                    else none
                  else none
                else
                  f_Room_hasLikeBefore_54 (f_Room_hasLikeBefore_2 n) sg x1 x2
              else none
            else none
          else
            f_Room_hasLikeBefore_54 (f_Room_hasLikeBefore_2 n) sg x1 x2
        else none
      else none
def f_Room_hasLikeBefore (sg : Hp) (x1 : Int32) : Option (Int32 × Hp) :=
  f_Room_hasLikeBefore_2  LF sg x1 (0 : Int32)
/-! BoxSpider$Room.unlikePlaces, method 95 -/
def f_Room_unlikePlaces_21 (k4 : Hp → Int32 → Int32 → Option (Int32 × Hp)) (sg : Hp) (x1 : Int32) (x2 : Int32) : Option (Int32 × Hp) :=
  k4 sg x1 (x2 + (1 : Int32))
def f_Room_unlikePlaces_4  : Nat → Hp → Int32 → Int32 → Option (Int32 × Hp)
  | 0, _, _, _ => none
  | n + 1, sg, x1, x2 =>
    if (8 : Int32) ≤ x2 then
      some (x1, sg)
    else
      (f_Room_hasLikeBefore sg x2).bind fun y1 =>
        if y1.1 = (0 : Int32) then
          f_Room_unlikePlaces_21 (f_Room_unlikePlaces_4 n) y1.2 (x1 + (1 : Int32)) x2
        else
          f_Room_unlikePlaces_21 (f_Room_unlikePlaces_4 n) y1.2 x1 x2
def f_Room_unlikePlaces (sg : Hp)  : Option (Int32 × Hp) :=
  f_Room_unlikePlaces_4  LF sg (0 : Int32) (0 : Int32)
/-! BoxSpider.count, method 92 -/
def f_Box_count (sg : Hp) (x1 : Int32) : Option (Int32 × Hp) :=
  if x1 = (0 : Int32) then
    (f_Rolls_valid sg ).bind fun y2 =>
      some (y2.1, y2.2)
  else
    if x1 = (1 : Int32) then
      some ((sg 9 1), sg)
    else
      if x1 = (2 : Int32) then
        (f_Box_axisOf sg (x1 - (2 : Int32))).bind fun y3 =>
          if inb y3.1 3 = true then
            some ((y3.2 2 (y3.1).toNatClampNeg), y3.2)
          else none
      else
        if x1 = (3 : Int32) then
          (f_Box_axisOf sg (x1 - (2 : Int32))).bind fun y5 =>
            if inb y5.1 3 = true then
              some ((y5.2 2 (y5.1).toNatClampNeg), y5.2)
            else none
        else
          if x1 = (4 : Int32) then
            (f_Box_axisOf sg (x1 - (2 : Int32))).bind fun y7 =>
              if inb y7.1 3 = true then
                some ((y7.2 2 (y7.1).toNatClampNeg), y7.2)
              else none
          else
            if x1 = (5 : Int32) then
              (f_Room_barredEdges sg ).bind fun y9 =>
                some (y9.1, y9.2)
            else
              if x1 = (6 : Int32) then
                (f_Room_unlikePlaces sg ).bind fun y10 =>
                  some (y10.1, y10.2)
              else
                if x1 = (7 : Int32) then
                  (f_Rolls_valid sg ).bind fun y11 =>
                    (f_Box_standBehind y11.2 y11.1).bind fun y12 =>
                      some ((y12 33 0), y12)
                else
                  if x1 = (8 : Int32) then
                    some ((sg 0 10), sg)
                  else
                    some ((-2 : Int32), sg)
/-! BoxSpiderModel.barred, method 180 -/
def f_Mod_barred_17 (k4 : Hp → Int32 → Int32 → Option (Int32 × Hp)) : Nat → Hp → Int32 → Int32 → Int32 → Option (Int32 × Hp)
  | 0, _, _, _, _ => none
  | n + 1, sg, x1, x2, x3 =>
    if x3 = (0 : Int32) then
      k4 sg x1 (x2 + (1 : Int32))
    else
      f_Mod_barred_17 k4 n sg (x1 + (1 : Int32)) x2 (x3 &&& (x3 - (1 : Int32)))
def f_Mod_barred_4  : Nat → Hp → Int32 → Int32 → Option (Int32 × Hp)
  | 0, _, _, _ => none
  | n + 1, sg, x1, x2 =>
    if (6 : Int32) ≤ x2 then
      some ((x1 / (2 : Int32)), sg)
    else
      if inb x2 6 = true then
        f_Mod_barred_17 (f_Mod_barred_4 n) LF sg x1 x2 (sg 53 (x2).toNatClampNeg)
      else none
def f_Mod_barred (sg : Hp)  : Option (Int32 × Hp) :=
  f_Mod_barred_4  LF sg (0 : Int32) (0 : Int32)
/-! BoxSpiderModel.unlike, method 181 -/
def f_Mod_unlike_115 (k4 : Hp → Int32 → Int32 → Option (Int32 × Hp)) (sg : Hp) (x2 : Int32) (xs0 : Int32) (xs1 : Int32) : Option (Int32 × Hp) :=
  k4 sg (xs0 + xs1) (x2 + (1 : Int32))
def f_Mod_unlike_98 (k4 : Hp → Int32 → Int32 → Option (Int32 × Hp)) (k15 : Hp → Int32 → Int32 → Int32 → Int32 → Option (Int32 × Hp)) (sg : Hp) (x1 : Int32) (x2 : Int32) (x4 : Int32) (xs0 : Int32) : Option (Int32 × Hp) :=
  k15 sg x1 x2 xs0 (x4 + (1 : Int32))
def f_Mod_unlike_93 (k4 : Hp → Int32 → Int32 → Option (Int32 × Hp)) (k15 : Hp → Int32 → Int32 → Int32 → Int32 → Option (Int32 × Hp)) (sg : Hp) (x1 : Int32) (x2 : Int32) (x4 : Int32) : Option (Int32 × Hp) :=
  f_Mod_unlike_98 k4 k15 sg x1 x2 x4 (1 : Int32)
def f_Mod_unlike_97 (k4 : Hp → Int32 → Int32 → Option (Int32 × Hp)) (k15 : Hp → Int32 → Int32 → Int32 → Int32 → Option (Int32 × Hp)) (sg : Hp) (x1 : Int32) (x2 : Int32) (x4 : Int32) : Option (Int32 × Hp) :=
  f_Mod_unlike_98 k4 k15 sg x1 x2 x4 (0 : Int32)
def f_Mod_unlike_15 (k4 : Hp → Int32 → Int32 → Option (Int32 × Hp)) : Nat → Hp → Int32 → Int32 → Int32 → Int32 → Option (Int32 × Hp)
  | 0, _, _, _, _, _ => none
  | n + 1, sg, x1, x2, x3, x4 =>
    if x2 ≤ x4 then
      if x3 = (0 : Int32) then
        f_Mod_unlike_115 k4 sg x2 x1 (1 : Int32)
      else
        f_Mod_unlike_115 k4 sg x2 x1 (0 : Int32)
    else
      if x3 = (0 : Int32) then
        if inb ((3 : Int32) * x2) 24 = true then
          if inb ((3 : Int32) * x4) 24 = true then
            if (sg 52 (((3 : Int32) * x2)).toNatClampNeg) = (sg 52 (((3 : Int32) * x4)).toNatClampNeg) then
              if inb (((3 : Int32) * x2) + (1 : Int32)) 24 = true then
                if inb (((3 : Int32) * x4) + (1 : Int32)) 24 = true then
                  if (sg 52 ((((3 : Int32) * x2) + (1 : Int32))).toNatClampNeg) = (sg 52 ((((3 : Int32) * x4) + (1 : Int32))).toNatClampNeg) then
                    if inb (((3 : Int32) * x2) + (2 : Int32)) 24 = true then
                      if inb (((3 : Int32) * x4) + (2 : Int32)) 24 = true then
                        if (sg 52 ((((3 : Int32) * x2) + (2 : Int32))).toNatClampNeg) = (sg 52 ((((3 : Int32) * x4) + (2 : Int32))).toNatClampNeg) then
                          f_Mod_unlike_93 k4 (f_Mod_unlike_15 k4 n) sg x1 x2 x4
                        else
                          f_Mod_unlike_97 k4 (f_Mod_unlike_15 k4 n) sg x1 x2 x4
                      else none
                    else none
                  else
                    f_Mod_unlike_97 k4 (f_Mod_unlike_15 k4 n) sg x1 x2 x4
                else none
              else none
            else
              f_Mod_unlike_97 k4 (f_Mod_unlike_15 k4 n) sg x1 x2 x4
          else none
        else none
      else
        f_Mod_unlike_93 k4 (f_Mod_unlike_15 k4 n) sg x1 x2 x4
def f_Mod_unlike_4  : Nat → Hp → Int32 → Int32 → Option (Int32 × Hp)
  | 0, _, _, _ => none
  | n + 1, sg, x1, x2 =>
    if (8 : Int32) ≤ x2 then
      some (x1, sg)
    else
      f_Mod_unlike_15 (f_Mod_unlike_4 n) LF sg x1 x2 (0 : Int32) (0 : Int32)
def f_Mod_unlike (sg : Hp)  : Option (Int32 × Hp) :=
  f_Mod_unlike_4  LF sg (0 : Int32) (0 : Int32)
/-! BoxSpiderModel.count, method 179 -/
def f_Mod_count (sg : Hp) (x1 : Int32) : Option (Int32 × Hp) :=
  if x1 = (0 : Int32) then
    (f_Mod_rolls sg ).bind fun y2 =>
      some (y2.1, y2.2)
  else
    if x1 = (1 : Int32) then
      some ((sg 46 9), sg)
    else
      if x1 = (2 : Int32) then
        if inb (x1 - (2 : Int32)) 3 = true then
          some ((sg 51 ((x1 - (2 : Int32))).toNatClampNeg), sg)
        else none
      else
        if x1 = (3 : Int32) then
          if inb (x1 - (2 : Int32)) 3 = true then
            some ((sg 51 ((x1 - (2 : Int32))).toNatClampNeg), sg)
          else none
        else
          if x1 = (4 : Int32) then
            if inb (x1 - (2 : Int32)) 3 = true then
              some ((sg 51 ((x1 - (2 : Int32))).toNatClampNeg), sg)
            else none
          else
            if x1 = (5 : Int32) then
              (f_Mod_barred sg ).bind fun y6 =>
                some (y6.1, y6.2)
            else
              if x1 = (6 : Int32) then
                (f_Mod_unlike sg ).bind fun y7 =>
                  some (y7.1, y7.2)
              else
                if x1 = (7 : Int32) then
                  (f_Mod_rolls sg ).bind fun y8 =>
                    (f_Mod_laidOf y8.2 y8.1 (0 : Int32)).bind fun y9 =>
                      some (y9.1, y9.2)
                else
                  if x1 = (8 : Int32) then
                    some ((sg 46 4), sg)
                  else
                    some ((-2 : Int32), sg)
/-! BoxSpider.digest, method 97 -/
def f_Box_digest_212  : Nat → Hp → Int64 → Int32 → Int32 → Option (Int64 × Hp)
  | 0, _, _, _, _ => none
  | n + 1, sg, l1, x3, x4 =>
    if (4 : Int32) < x4 then
      (f_Box_sit sg ).bind fun y3 =>
        (f_Box_nearer y3.2 (0 : Int32) (1 : Int32)).bind fun y4 =>
          (f_Box_wires y4.2 (255 : Int32) (-1 : Int32)).bind fun y5 =>
            (f_Box_wires y5.2 (255 : Int32) (-2 : Int32)).bind fun y6 =>
              (f_Box_wires y6.2 (255 : Int32) (0 : Int32)).bind fun y7 =>
                (f_Box_told y7.2 (0 : Int32) (0 : Int32) (1 : Int32) x3).bind fun y8 =>
                  (f_Box_snail y8.2 (2 : Int32) (1 : Int32) (5 : Int32) (0 : Int32)).bind fun y9 =>
                    (f_Box_snail y9.2 (3 : Int32) (-2 : Int32) (8 : Int32) (1 : Int32)).bind fun y10 =>
                      (f_Box_thread y10.2 (0 : Int32) (1 : Int32) (100 : Int32) (0 : Int32)).bind fun y11 =>
                        (f_Box_flies y11.2 (0 : Int32) (7 : Int32) (20 : Int32) (300 : Int32)).bind fun y12 =>
                          some ((((31 : Int64) * (((31 : Int64) * (((31 : Int64) * (((31 : Int64) * (((31 : Int64) * (((31 : Int64) * (((31 : Int64) * (((31 : Int64) * (((31 : Int64) * (((31 : Int64) * l1) + (y3.1).toInt64)) + (y4.1).toInt64)) + (y5.1).toInt64)) + (y6.1).toInt64)) + (y7.1).toInt64)) + (y8.1).toInt64)) + (y9.1).toInt64)) + (y10.1).toInt64)) + (y11.1).toInt64)) + (y12.1).toInt64), y12.2)
    else
      (f_Box_laidOut sg x3 x4).bind fun y13 =>
        f_Box_digest_212 n y13.2 (((31 : Int64) * l1) + (y13.1).toInt64) x3 (x4 + (1 : Int32))
def f_Box_digest_122 (k45 : Hp → Int64 → Int32 → Option (Int64 × Hp)) : Nat → Hp → Int64 → Int32 → Int32 → Int32 → Option (Int64 × Hp)
  | 0, _, _, _, _, _ => none
  | n + 1, sg, l1, x3, x4, x5 =>
    if (2 : Int32) < x5 then
      (f_Box_farthest sg x3).bind fun y16 =>
        (f_Box_within y16.2 x3 (200 : Int32)).bind fun y17 =>
          (f_Box_lies y17.2 x3 (0 : Int32) (0 : Int32)).bind fun y18 =>
            k45 y18.2 (((31 : Int64) * (((31 : Int64) * (((31 : Int64) * l1) + (y16.1).toInt64)) + (y17.1).toInt64)) + (y18.1).toInt64) (x3 + (1 : Int32))
    else
      (f_Box_face sg x3 x4 x5).bind fun y19 =>
        f_Box_digest_122 k45 n y19.2 (((31 : Int64) * l1) + (y19.1).toInt64) x3 x4 (x5 + (1 : Int32))
def f_Box_digest_62 (k45 : Hp → Int64 → Int32 → Option (Int64 × Hp)) : Nat → Hp → Int64 → Int32 → Int32 → Int32 → Option (Int64 × Hp)
  | 0, _, _, _, _, _ => none
  | n + 1, sg, l1, x3, x4, x5 =>
    if (3 : Int32) < x5 then
      (f_Box_shortest sg x3 x4).bind fun y14 =>
        (f_Box_ways y14.2 x3 x4).bind fun y15 =>
          f_Box_digest_122 k45 LF y15.2 (((31 : Int64) * (((31 : Int64) * l1) + (y14.1).toInt64)) + (y15.1).toInt64) x3 x4 (0 : Int32)
    else
      (f_Box_at sg x3 x5).bind fun y20 =>
        f_Box_digest_62 k45 n y20.2 (((31 : Int64) * l1) + (y20.1).toInt64) x3 x4 (x5 + (1 : Int32))
def f_Box_digest_45  : Nat → Hp → Int64 → Int32 → Option (Int64 × Hp)
  | 0, _, _, _ => none
  | n + 1, sg, l1, x3 =>
    if (8 : Int32) ≤ x3 then
      (f_Rolls_valid sg ).bind fun y2 =>
        f_Box_digest_212  LF y2.2 l1 y2.1 (0 : Int32)
    else
      f_Box_digest_62 (f_Box_digest_45 n) LF sg l1 x3 ((x3 + (1 : Int32)) - (x3 + (1 : Int32)) / (8 : Int32) * (8 : Int32)) (0 : Int32)
def f_Box_digest_6  : Nat → Hp → Int64 → Int32 → Option (Int64 × Hp)
  | 0, _, _, _ => none
  | n + 1, sg, l1, x3 =>
    if (7 : Int32) < x3 then
      (f_Box_fault sg ).bind fun y1 =>
        f_Box_digest_45  LF y1.2 (((31 : Int64) * l1) + (y1.1).toInt64) (0 : Int32)
    else
      (f_Box_count sg x3).bind fun y21 =>
        f_Box_digest_6 n y21.2 (((31 : Int64) * l1) + (y21.1).toInt64) (x3 + (1 : Int32))
def f_Box_digest (sg : Hp)  : Option (Int64 × Hp) :=
  f_Box_digest_6  LF sg (17 : Int64) (0 : Int32)
/-! BoxSpiderModel.digest, method 182 -/
def f_Mod_digest_209  : Nat → Hp → Int64 → Int32 → Int32 → Option (Int64 × Hp)
  | 0, _, _, _, _ => none
  | n + 1, sg, l1, x3, x4 =>
    if (5 : Int32) ≤ x4 then
      (f_Mod_sitNow sg ).bind fun y3 =>
        (f_Mod_nearerOf y3.2 (0 : Int32) (1 : Int32)).bind fun y4 =>
          (f_Mod_wiresOf y4.2 (255 : Int32) (-1 : Int32)).bind fun y5 =>
            (f_Mod_wiresOf y5.2 (255 : Int32) (-2 : Int32)).bind fun y6 =>
              (f_Mod_wiresOf y6.2 (255 : Int32) (0 : Int32)).bind fun y7 =>
                (f_Mod_toldOf y7.2 (0 : Int32) (0 : Int32) (1 : Int32) x3).bind fun y8 =>
                  (f_Mod_snailOf y8.2 (2 : Int32) (1 : Int32) (5 : Int32) (0 : Int32)).bind fun y9 =>
                    (f_Mod_snailOf y9.2 (3 : Int32) (-2 : Int32) (8 : Int32) (1 : Int32)).bind fun y10 =>
                      (f_Mod_threadOf y10.2 (0 : Int32) (1 : Int32) (100 : Int32) (0 : Int32)).bind fun y11 =>
                        (f_Mod_fliesOf y11.2 (0 : Int32) (7 : Int32) (20 : Int32) (300 : Int32)).bind fun y12 =>
                          some ((((31 : Int64) * (((31 : Int64) * (((31 : Int64) * (((31 : Int64) * (((31 : Int64) * (((31 : Int64) * (((31 : Int64) * (((31 : Int64) * (((31 : Int64) * (((31 : Int64) * l1) + (y3.1).toInt64)) + (y4.1).toInt64)) + (y5.1).toInt64)) + (y6.1).toInt64)) + (y7.1).toInt64)) + (y8.1).toInt64)) + (y9.1).toInt64)) + (y10.1).toInt64)) + (y11.1).toInt64)) + (y12.1).toInt64), y12.2)
    else
      (f_Mod_laidOf sg x3 x4).bind fun y13 =>
        f_Mod_digest_209 n y13.2 (((31 : Int64) * l1) + (y13.1).toInt64) x3 (x4 + (1 : Int32))
def f_Mod_digest_122 (k45 : Hp → Int64 → Int32 → Option (Int64 × Hp)) : Nat → Hp → Int64 → Int32 → Int32 → Int32 → Option (Int64 × Hp)
  | 0, _, _, _, _, _ => none
  | n + 1, sg, l1, x3, x4, x5 =>
    if (3 : Int32) ≤ x5 then
      (f_Mod_farthestOf sg x3).bind fun y16 =>
        (f_Mod_withinOf y16.2 x3 (200 : Int32)).bind fun y17 =>
          (f_Mod_liesOf y17.2 x3 (0 : Int32) (0 : Int32)).bind fun y18 =>
            k45 y18.2 (((31 : Int64) * (((31 : Int64) * (((31 : Int64) * l1) + (y16.1).toInt64)) + (y17.1).toInt64)) + (y18.1).toInt64) (x3 + (1 : Int32))
    else
      (f_Mod_faceOf sg x3 x4 x5).bind fun y19 =>
        f_Mod_digest_122 k45 n y19.2 (((31 : Int64) * l1) + (y19.1).toInt64) x3 x4 (x5 + (1 : Int32))
def f_Mod_digest_62 (k45 : Hp → Int64 → Int32 → Option (Int64 × Hp)) : Nat → Hp → Int64 → Int32 → Int32 → Int32 → Option (Int64 × Hp)
  | 0, _, _, _, _, _ => none
  | n + 1, sg, l1, x3, x4, x5 =>
    if (4 : Int32) ≤ x5 then
      (f_Mod_shortestOf sg x3 x4).bind fun y14 =>
        (f_Mod_waysOf y14.2 x3 x4).bind fun y15 =>
          f_Mod_digest_122 k45 LF y15.2 (((31 : Int64) * (((31 : Int64) * l1) + (y14.1).toInt64)) + (y15.1).toInt64) x3 x4 (0 : Int32)
    else
      (f_Mod_atOf sg x3 x5).bind fun y20 =>
        f_Mod_digest_62 k45 n y20.2 (((31 : Int64) * l1) + (y20.1).toInt64) x3 x4 (x5 + (1 : Int32))
def f_Mod_digest_45  : Nat → Hp → Int64 → Int32 → Option (Int64 × Hp)
  | 0, _, _, _ => none
  | n + 1, sg, l1, x3 =>
    if (8 : Int32) ≤ x3 then
      (f_Mod_rolls sg ).bind fun y2 =>
        f_Mod_digest_209  LF y2.2 l1 y2.1 (0 : Int32)
    else
      f_Mod_digest_62 (f_Mod_digest_45 n) LF sg l1 x3 ((x3 + (1 : Int32)) - (x3 + (1 : Int32)) / (8 : Int32) * (8 : Int32)) (0 : Int32)
def f_Mod_digest_6  : Nat → Hp → Int64 → Int32 → Option (Int64 × Hp)
  | 0, _, _, _ => none
  | n + 1, sg, l1, x3 =>
    if (8 : Int32) ≤ x3 then
      (f_Mod_fault sg ).bind fun y1 =>
        f_Mod_digest_45  LF y1.2 (((31 : Int64) * l1) + (y1.1).toInt64) (0 : Int32)
    else
      (f_Mod_count sg x3).bind fun y21 =>
        f_Mod_digest_6 n y21.2 (((31 : Int64) * l1) + (y21.1).toInt64) (x3 + (1 : Int32))
def f_Mod_digest (sg : Hp)  : Option (Int64 × Hp) :=
  f_Mod_digest_6  LF sg (17 : Int64) (0 : Int32)
/-! BoxSpiderLaw.law, method 183 -/
def f_Law_law_1246 (L : Nat) (xs : Nat → Int32) (k18 : Hp → Int32 → Option (Int32 × Hp)) (sg : Hp) (x3 : Int32) : Option (Int32 × Hp) :=
  k18 sg (x3 + (6 : Int32))
def f_Law_law_18 (L : Nat) (xs : Nat → Int32) : Nat → Hp → Int32 → Option (Int32 × Hp)
  | 0, _, _ => none
  | n + 1, sg, x3 =>
    if ((Int32.ofNat L) - (6 : Int32)) < x3 then
      some ((1 : Int32), sg)
    else
      if inb x3 L = true then
        if ((xs (x3).toNatClampNeg) &&& (31 : Int32)) = (0 : Int32) then
          if inb (x3 + (1 : Int32)) L = true then
            if inb (x3 + (2 : Int32)) L = true then
              (f_Box_side sg (xs ((x3 + (1 : Int32))).toNatClampNeg) (xs ((x3 + (2 : Int32))).toNatClampNeg)).bind fun y5 =>
                if inb (x3 + (1 : Int32)) L = true then
                  if inb (x3 + (2 : Int32)) L = true then
                    (f_Mod_side y5.2 (xs ((x3 + (1 : Int32))).toNatClampNeg) (xs ((x3 + (2 : Int32))).toNatClampNeg)).bind fun y8 =>
                      if y5.1 = y8.1 then
                        f_Law_law_1246 L xs (f_Law_law_18 L xs n) y8.2 x3
                      else
                        some ((0 : Int32), y8.2)
                  else none
                else none
            else none
          else none
        else
          if ((xs (x3).toNatClampNeg) &&& (31 : Int32)) = (1 : Int32) then
            if inb (x3 + (1 : Int32)) L = true then
              if inb (x3 + (2 : Int32)) L = true then
                if inb (x3 + (3 : Int32)) L = true then
                  if inb (x3 + (4 : Int32)) L = true then
                    (f_Box_place sg (xs ((x3 + (1 : Int32))).toNatClampNeg) (xs ((x3 + (2 : Int32))).toNatClampNeg) (xs ((x3 + (3 : Int32))).toNatClampNeg) (xs ((x3 + (4 : Int32))).toNatClampNeg)).bind fun y13 =>
                      if inb (x3 + (1 : Int32)) L = true then
                        if inb (x3 + (2 : Int32)) L = true then
                          if inb (x3 + (3 : Int32)) L = true then
                            if inb (x3 + (4 : Int32)) L = true then
                              (f_Mod_place y13.2 (xs ((x3 + (1 : Int32))).toNatClampNeg) (xs ((x3 + (2 : Int32))).toNatClampNeg) (xs ((x3 + (3 : Int32))).toNatClampNeg) (xs ((x3 + (4 : Int32))).toNatClampNeg)).bind fun y18 =>
                                if y13.1 = y18.1 then
                                  f_Law_law_1246 L xs (f_Law_law_18 L xs n) y18.2 x3
                                else
                                  some ((0 : Int32), y18.2)
                            else none
                          else none
                        else none
                      else none
                  else none
                else none
              else none
            else none
          else
            if ((xs (x3).toNatClampNeg) &&& (31 : Int32)) = (2 : Int32) then
              if inb (x3 + (1 : Int32)) L = true then
                if inb (x3 + (2 : Int32)) L = true then
                  (f_Box_at sg (xs ((x3 + (1 : Int32))).toNatClampNeg) (xs ((x3 + (2 : Int32))).toNatClampNeg)).bind fun y21 =>
                    if inb (x3 + (1 : Int32)) L = true then
                      if inb (x3 + (2 : Int32)) L = true then
                        (f_Mod_at y21.2 (xs ((x3 + (1 : Int32))).toNatClampNeg) (xs ((x3 + (2 : Int32))).toNatClampNeg)).bind fun y24 =>
                          if y21.1 = y24.1 then
                            f_Law_law_1246 L xs (f_Law_law_18 L xs n) y24.2 x3
                          else
                            some ((0 : Int32), y24.2)
                      else none
                    else none
                else none
              else none
            else
              if ((xs (x3).toNatClampNeg) &&& (31 : Int32)) = (3 : Int32) then
                if inb (x3 + (1 : Int32)) L = true then
                  (f_Box_read sg (xs ((x3 + (1 : Int32))).toNatClampNeg)).bind fun y26 =>
                    if inb (x3 + (1 : Int32)) L = true then
                      (f_Mod_read y26.2 (xs ((x3 + (1 : Int32))).toNatClampNeg)).bind fun y28 =>
                        if y26.1 = y28.1 then
                          f_Law_law_1246 L xs (f_Law_law_18 L xs n) y28.2 x3
                        else
                          some ((0 : Int32), y28.2)
                    else none
                else none
              else
                if ((xs (x3).toNatClampNeg) &&& (31 : Int32)) = (4 : Int32) then
                  if inb (x3 + (1 : Int32)) L = true then
                    (f_Box_type sg (xs ((x3 + (1 : Int32))).toNatClampNeg)).bind fun y30 =>
                      if inb (x3 + (1 : Int32)) L = true then
                        (f_Mod_type y30.2 (xs ((x3 + (1 : Int32))).toNatClampNeg)).bind fun y32 =>
                          if y30.1 = y32.1 then
                            f_Law_law_1246 L xs (f_Law_law_18 L xs n) y32.2 x3
                          else
                            some ((0 : Int32), y32.2)
                      else none
                  else none
                else
                  if ((xs (x3).toNatClampNeg) &&& (31 : Int32)) = (5 : Int32) then
                    (f_Box_undo sg ).bind fun y33 =>
                      (f_Mod_undo y33.2 ).bind fun y34 =>
                        if y33.1 = y34.1 then
                          f_Law_law_1246 L xs (f_Law_law_18 L xs n) y34.2 x3
                        else
                          some ((0 : Int32), y34.2)
                  else
                    if ((xs (x3).toNatClampNeg) &&& (31 : Int32)) = (6 : Int32) then
                      (f_Box_wipe sg ).bind fun y35 =>
                        (f_Mod_wipe y35.2 ).bind fun y36 =>
                          if y35.1 = y36.1 then
                            f_Law_law_1246 L xs (f_Law_law_18 L xs n) y36.2 x3
                          else
                            some ((0 : Int32), y36.2)
                    else
                      if ((xs (x3).toNatClampNeg) &&& (31 : Int32)) = (7 : Int32) then
                        (f_Box_fault sg ).bind fun y37 =>
                          (f_Mod_fault y37.2 ).bind fun y38 =>
                            if y37.1 = y38.1 then
                              f_Law_law_1246 L xs (f_Law_law_18 L xs n) y38.2 x3
                            else
                              some ((0 : Int32), y38.2)
                      else
                        if ((xs (x3).toNatClampNeg) &&& (31 : Int32)) = (8 : Int32) then
                          if inb (x3 + (1 : Int32)) L = true then
                            if inb (x3 + (2 : Int32)) L = true then
                              if inb (x3 + (3 : Int32)) L = true then
                                (f_Box_bar sg (xs ((x3 + (1 : Int32))).toNatClampNeg) (xs ((x3 + (2 : Int32))).toNatClampNeg) (xs ((x3 + (3 : Int32))).toNatClampNeg)).bind fun y42 =>
                                  if inb (x3 + (1 : Int32)) L = true then
                                    if inb (x3 + (2 : Int32)) L = true then
                                      if inb (x3 + (3 : Int32)) L = true then
                                        (f_Mod_bar y42.2 (xs ((x3 + (1 : Int32))).toNatClampNeg) (xs ((x3 + (2 : Int32))).toNatClampNeg) (xs ((x3 + (3 : Int32))).toNatClampNeg)).bind fun y46 =>
                                          if y42.1 = y46.1 then
                                            f_Law_law_1246 L xs (f_Law_law_18 L xs n) y46.2 x3
                                          else
                                            some ((0 : Int32), y46.2)
                                      else none
                                    else none
                                  else none
                              else none
                            else none
                          else none
                        else
                          if ((xs (x3).toNatClampNeg) &&& (31 : Int32)) = (9 : Int32) then
                            if inb (x3 + (1 : Int32)) L = true then
                              if inb (x3 + (2 : Int32)) L = true then
                                (f_Box_laidOut sg (xs ((x3 + (1 : Int32))).toNatClampNeg) (xs ((x3 + (2 : Int32))).toNatClampNeg)).bind fun y49 =>
                                  if inb (x3 + (1 : Int32)) L = true then
                                    if inb (x3 + (2 : Int32)) L = true then
                                      (f_Mod_laidOut y49.2 (xs ((x3 + (1 : Int32))).toNatClampNeg) (xs ((x3 + (2 : Int32))).toNatClampNeg)).bind fun y52 =>
                                        if y49.1 = y52.1 then
                                          f_Law_law_1246 L xs (f_Law_law_18 L xs n) y52.2 x3
                                        else
                                          some ((0 : Int32), y52.2)
                                    else none
                                  else none
                              else none
                            else none
                          else
                            if ((xs (x3).toNatClampNeg) &&& (31 : Int32)) = (10 : Int32) then
                              if inb (x3 + (1 : Int32)) L = true then
                                if inb (x3 + (2 : Int32)) L = true then
                                  if inb (x3 + (3 : Int32)) L = true then
                                    (f_Box_lies sg (xs ((x3 + (1 : Int32))).toNatClampNeg) (xs ((x3 + (2 : Int32))).toNatClampNeg) (xs ((x3 + (3 : Int32))).toNatClampNeg)).bind fun y56 =>
                                      if inb (x3 + (1 : Int32)) L = true then
                                        if inb (x3 + (2 : Int32)) L = true then
                                          if inb (x3 + (3 : Int32)) L = true then
                                            (f_Mod_lies y56.2 (xs ((x3 + (1 : Int32))).toNatClampNeg) (xs ((x3 + (2 : Int32))).toNatClampNeg) (xs ((x3 + (3 : Int32))).toNatClampNeg)).bind fun y60 =>
                                              if y56.1 = y60.1 then
                                                f_Law_law_1246 L xs (f_Law_law_18 L xs n) y60.2 x3
                                              else
                                                some ((0 : Int32), y60.2)
                                          else none
                                        else none
                                      else none
                                  else none
                                else none
                              else none
                            else
                              if ((xs (x3).toNatClampNeg) &&& (31 : Int32)) = (11 : Int32) then
                                if inb (x3 + (1 : Int32)) L = true then
                                  if inb (x3 + (2 : Int32)) L = true then
                                    (f_Box_shortest sg (xs ((x3 + (1 : Int32))).toNatClampNeg) (xs ((x3 + (2 : Int32))).toNatClampNeg)).bind fun y63 =>
                                      if inb (x3 + (1 : Int32)) L = true then
                                        if inb (x3 + (2 : Int32)) L = true then
                                          (f_Mod_shortest y63.2 (xs ((x3 + (1 : Int32))).toNatClampNeg) (xs ((x3 + (2 : Int32))).toNatClampNeg)).bind fun y66 =>
                                            if y63.1 = y66.1 then
                                              f_Law_law_1246 L xs (f_Law_law_18 L xs n) y66.2 x3
                                            else
                                              some ((0 : Int32), y66.2)
                                        else none
                                      else none
                                  else none
                                else none
                              else
                                if ((xs (x3).toNatClampNeg) &&& (31 : Int32)) = (12 : Int32) then
                                  if inb (x3 + (1 : Int32)) L = true then
                                    if inb (x3 + (2 : Int32)) L = true then
                                      (f_Box_ways sg (xs ((x3 + (1 : Int32))).toNatClampNeg) (xs ((x3 + (2 : Int32))).toNatClampNeg)).bind fun y69 =>
                                        if inb (x3 + (1 : Int32)) L = true then
                                          if inb (x3 + (2 : Int32)) L = true then
                                            (f_Mod_ways y69.2 (xs ((x3 + (1 : Int32))).toNatClampNeg) (xs ((x3 + (2 : Int32))).toNatClampNeg)).bind fun y72 =>
                                              if y69.1 = y72.1 then
                                                f_Law_law_1246 L xs (f_Law_law_18 L xs n) y72.2 x3
                                              else
                                                some ((0 : Int32), y72.2)
                                          else none
                                        else none
                                    else none
                                  else none
                                else
                                  if ((xs (x3).toNatClampNeg) &&& (31 : Int32)) = (13 : Int32) then
                                    if inb (x3 + (1 : Int32)) L = true then
                                      if inb (x3 + (2 : Int32)) L = true then
                                        if inb (x3 + (3 : Int32)) L = true then
                                          (f_Box_face sg (xs ((x3 + (1 : Int32))).toNatClampNeg) (xs ((x3 + (2 : Int32))).toNatClampNeg) (xs ((x3 + (3 : Int32))).toNatClampNeg)).bind fun y76 =>
                                            if inb (x3 + (1 : Int32)) L = true then
                                              if inb (x3 + (2 : Int32)) L = true then
                                                if inb (x3 + (3 : Int32)) L = true then
                                                  (f_Mod_face y76.2 (xs ((x3 + (1 : Int32))).toNatClampNeg) (xs ((x3 + (2 : Int32))).toNatClampNeg) (xs ((x3 + (3 : Int32))).toNatClampNeg)).bind fun y80 =>
                                                    if y76.1 = y80.1 then
                                                      f_Law_law_1246 L xs (f_Law_law_18 L xs n) y80.2 x3
                                                    else
                                                      some ((0 : Int32), y80.2)
                                                else none
                                              else none
                                            else none
                                        else none
                                      else none
                                    else none
                                  else
                                    if ((xs (x3).toNatClampNeg) &&& (31 : Int32)) = (14 : Int32) then
                                      if inb (x3 + (1 : Int32)) L = true then
                                        (f_Box_farthest sg (xs ((x3 + (1 : Int32))).toNatClampNeg)).bind fun y82 =>
                                          if inb (x3 + (1 : Int32)) L = true then
                                            (f_Mod_farthest y82.2 (xs ((x3 + (1 : Int32))).toNatClampNeg)).bind fun y84 =>
                                              if y82.1 = y84.1 then
                                                f_Law_law_1246 L xs (f_Law_law_18 L xs n) y84.2 x3
                                              else
                                                some ((0 : Int32), y84.2)
                                          else none
                                      else none
                                    else
                                      if ((xs (x3).toNatClampNeg) &&& (31 : Int32)) = (15 : Int32) then
                                        (f_Box_sit sg ).bind fun y85 =>
                                          (f_Mod_sit y85.2 ).bind fun y86 =>
                                            if y85.1 = y86.1 then
                                              f_Law_law_1246 L xs (f_Law_law_18 L xs n) y86.2 x3
                                            else
                                              some ((0 : Int32), y86.2)
                                      else
                                        if ((xs (x3).toNatClampNeg) &&& (31 : Int32)) = (16 : Int32) then
                                          if inb (x3 + (1 : Int32)) L = true then
                                            if inb (x3 + (2 : Int32)) L = true then
                                              (f_Box_nearer sg (xs ((x3 + (1 : Int32))).toNatClampNeg) (xs ((x3 + (2 : Int32))).toNatClampNeg)).bind fun y89 =>
                                                if inb (x3 + (1 : Int32)) L = true then
                                                  if inb (x3 + (2 : Int32)) L = true then
                                                    (f_Mod_nearer y89.2 (xs ((x3 + (1 : Int32))).toNatClampNeg) (xs ((x3 + (2 : Int32))).toNatClampNeg)).bind fun y92 =>
                                                      if y89.1 = y92.1 then
                                                        f_Law_law_1246 L xs (f_Law_law_18 L xs n) y92.2 x3
                                                      else
                                                        some ((0 : Int32), y92.2)
                                                  else none
                                                else none
                                            else none
                                          else none
                                        else
                                          if ((xs (x3).toNatClampNeg) &&& (31 : Int32)) = (17 : Int32) then
                                            if inb (x3 + (1 : Int32)) L = true then
                                              if inb (x3 + (2 : Int32)) L = true then
                                                (f_Box_wires sg (xs ((x3 + (1 : Int32))).toNatClampNeg) (xs ((x3 + (2 : Int32))).toNatClampNeg)).bind fun y95 =>
                                                  if inb (x3 + (1 : Int32)) L = true then
                                                    if inb (x3 + (2 : Int32)) L = true then
                                                      (f_Mod_wires y95.2 (xs ((x3 + (1 : Int32))).toNatClampNeg) (xs ((x3 + (2 : Int32))).toNatClampNeg)).bind fun y98 =>
                                                        if y95.1 = y98.1 then
                                                          f_Law_law_1246 L xs (f_Law_law_18 L xs n) y98.2 x3
                                                        else
                                                          some ((0 : Int32), y98.2)
                                                    else none
                                                  else none
                                              else none
                                            else none
                                          else
                                            if ((xs (x3).toNatClampNeg) &&& (31 : Int32)) = (18 : Int32) then
                                              if inb (x3 + (1 : Int32)) L = true then
                                                if inb (x3 + (2 : Int32)) L = true then
                                                  (f_Box_within sg (xs ((x3 + (1 : Int32))).toNatClampNeg) (xs ((x3 + (2 : Int32))).toNatClampNeg)).bind fun y101 =>
                                                    if inb (x3 + (1 : Int32)) L = true then
                                                      if inb (x3 + (2 : Int32)) L = true then
                                                        (f_Mod_within y101.2 (xs ((x3 + (1 : Int32))).toNatClampNeg) (xs ((x3 + (2 : Int32))).toNatClampNeg)).bind fun y104 =>
                                                          if y101.1 = y104.1 then
                                                            f_Law_law_1246 L xs (f_Law_law_18 L xs n) y104.2 x3
                                                          else
                                                            some ((0 : Int32), y104.2)
                                                      else none
                                                    else none
                                                else none
                                              else none
                                            else
                                              if ((xs (x3).toNatClampNeg) &&& (31 : Int32)) = (19 : Int32) then
                                                if inb (x3 + (1 : Int32)) L = true then
                                                  if inb (x3 + (2 : Int32)) L = true then
                                                    if inb (x3 + (3 : Int32)) L = true then
                                                      if inb (x3 + (4 : Int32)) L = true then
                                                        (f_Box_told sg (xs ((x3 + (1 : Int32))).toNatClampNeg) (xs ((x3 + (2 : Int32))).toNatClampNeg) (xs ((x3 + (3 : Int32))).toNatClampNeg) (xs ((x3 + (4 : Int32))).toNatClampNeg)).bind fun y109 =>
                                                          if inb (x3 + (1 : Int32)) L = true then
                                                            if inb (x3 + (2 : Int32)) L = true then
                                                              if inb (x3 + (3 : Int32)) L = true then
                                                                if inb (x3 + (4 : Int32)) L = true then
                                                                  (f_Mod_told y109.2 (xs ((x3 + (1 : Int32))).toNatClampNeg) (xs ((x3 + (2 : Int32))).toNatClampNeg) (xs ((x3 + (3 : Int32))).toNatClampNeg) (xs ((x3 + (4 : Int32))).toNatClampNeg)).bind fun y114 =>
                                                                    if y109.1 = y114.1 then
                                                                      f_Law_law_1246 L xs (f_Law_law_18 L xs n) y114.2 x3
                                                                    else
                                                                      some ((0 : Int32), y114.2)
                                                                else none
                                                              else none
                                                            else none
                                                          else none
                                                      else none
                                                    else none
                                                  else none
                                                else none
                                              else
                                                if ((xs (x3).toNatClampNeg) &&& (31 : Int32)) = (20 : Int32) then
                                                  if inb (x3 + (1 : Int32)) L = true then
                                                    if inb (x3 + (2 : Int32)) L = true then
                                                      if inb (x3 + (3 : Int32)) L = true then
                                                        if inb (x3 + (4 : Int32)) L = true then
                                                          (f_Box_snail sg (xs ((x3 + (1 : Int32))).toNatClampNeg) (xs ((x3 + (2 : Int32))).toNatClampNeg) (xs ((x3 + (3 : Int32))).toNatClampNeg) (xs ((x3 + (4 : Int32))).toNatClampNeg)).bind fun y119 =>
                                                            if inb (x3 + (1 : Int32)) L = true then
                                                              if inb (x3 + (2 : Int32)) L = true then
                                                                if inb (x3 + (3 : Int32)) L = true then
                                                                  if inb (x3 + (4 : Int32)) L = true then
                                                                    (f_Mod_snail y119.2 (xs ((x3 + (1 : Int32))).toNatClampNeg) (xs ((x3 + (2 : Int32))).toNatClampNeg) (xs ((x3 + (3 : Int32))).toNatClampNeg) (xs ((x3 + (4 : Int32))).toNatClampNeg)).bind fun y124 =>
                                                                      if y119.1 = y124.1 then
                                                                        f_Law_law_1246 L xs (f_Law_law_18 L xs n) y124.2 x3
                                                                      else
                                                                        some ((0 : Int32), y124.2)
                                                                  else none
                                                                else none
                                                              else none
                                                            else none
                                                        else none
                                                      else none
                                                    else none
                                                  else none
                                                else
                                                  if ((xs (x3).toNatClampNeg) &&& (31 : Int32)) = (21 : Int32) then
                                                    if inb (x3 + (1 : Int32)) L = true then
                                                      if inb (x3 + (2 : Int32)) L = true then
                                                        if inb (x3 + (3 : Int32)) L = true then
                                                          if inb (x3 + (4 : Int32)) L = true then
                                                            (f_Box_thread sg (xs ((x3 + (1 : Int32))).toNatClampNeg) (xs ((x3 + (2 : Int32))).toNatClampNeg) (xs ((x3 + (3 : Int32))).toNatClampNeg) (xs ((x3 + (4 : Int32))).toNatClampNeg)).bind fun y129 =>
                                                              if inb (x3 + (1 : Int32)) L = true then
                                                                if inb (x3 + (2 : Int32)) L = true then
                                                                  if inb (x3 + (3 : Int32)) L = true then
                                                                    if inb (x3 + (4 : Int32)) L = true then
                                                                      (f_Mod_thread y129.2 (xs ((x3 + (1 : Int32))).toNatClampNeg) (xs ((x3 + (2 : Int32))).toNatClampNeg) (xs ((x3 + (3 : Int32))).toNatClampNeg) (xs ((x3 + (4 : Int32))).toNatClampNeg)).bind fun y134 =>
                                                                        if y129.1 = y134.1 then
                                                                          f_Law_law_1246 L xs (f_Law_law_18 L xs n) y134.2 x3
                                                                        else
                                                                          some ((0 : Int32), y134.2)
                                                                    else none
                                                                  else none
                                                                else none
                                                              else none
                                                          else none
                                                        else none
                                                      else none
                                                    else none
                                                  else
                                                    if ((xs (x3).toNatClampNeg) &&& (31 : Int32)) = (22 : Int32) then
                                                      if inb (x3 + (1 : Int32)) L = true then
                                                        if inb (x3 + (2 : Int32)) L = true then
                                                          if inb (x3 + (3 : Int32)) L = true then
                                                            if inb (x3 + (4 : Int32)) L = true then
                                                              (f_Box_flies sg (xs ((x3 + (1 : Int32))).toNatClampNeg) (xs ((x3 + (2 : Int32))).toNatClampNeg) (xs ((x3 + (3 : Int32))).toNatClampNeg) (xs ((x3 + (4 : Int32))).toNatClampNeg)).bind fun y139 =>
                                                                if inb (x3 + (1 : Int32)) L = true then
                                                                  if inb (x3 + (2 : Int32)) L = true then
                                                                    if inb (x3 + (3 : Int32)) L = true then
                                                                      if inb (x3 + (4 : Int32)) L = true then
                                                                        (f_Mod_flies y139.2 (xs ((x3 + (1 : Int32))).toNatClampNeg) (xs ((x3 + (2 : Int32))).toNatClampNeg) (xs ((x3 + (3 : Int32))).toNatClampNeg) (xs ((x3 + (4 : Int32))).toNatClampNeg)).bind fun y144 =>
                                                                          if y139.1 = y144.1 then
                                                                            f_Law_law_1246 L xs (f_Law_law_18 L xs n) y144.2 x3
                                                                          else
                                                                            some ((0 : Int32), y144.2)
                                                                      else none
                                                                    else none
                                                                  else none
                                                                else none
                                                            else none
                                                          else none
                                                        else none
                                                      else none
                                                    else
                                                      if ((xs (x3).toNatClampNeg) &&& (31 : Int32)) = (23 : Int32) then
                                                        if inb (x3 + (1 : Int32)) L = true then
                                                          if inb (x3 + (2 : Int32)) L = true then
                                                            if inb (x3 + (3 : Int32)) L = true then
                                                              (f_Box_sheet sg (xs ((x3 + (1 : Int32))).toNatClampNeg) (xs ((x3 + (2 : Int32))).toNatClampNeg) (xs ((x3 + (3 : Int32))).toNatClampNeg)).bind fun y148 =>
                                                                if inb (x3 + (1 : Int32)) L = true then
                                                                  if inb (x3 + (2 : Int32)) L = true then
                                                                    if inb (x3 + (3 : Int32)) L = true then
                                                                      (f_Mod_sheet y148.2 (xs ((x3 + (1 : Int32))).toNatClampNeg) (xs ((x3 + (2 : Int32))).toNatClampNeg) (xs ((x3 + (3 : Int32))).toNatClampNeg)).bind fun y152 =>
                                                                        if y148.1 = y152.1 then
                                                                          f_Law_law_1246 L xs (f_Law_law_18 L xs n) y152.2 x3
                                                                        else
                                                                          some ((0 : Int32), y152.2)
                                                                    else none
                                                                  else none
                                                                else none
                                                            else none
                                                          else none
                                                        else none
                                                      else
                                                        if ((xs (x3).toNatClampNeg) &&& (31 : Int32)) = (24 : Int32) then
                                                          if inb (x3 + (1 : Int32)) L = true then
                                                            (f_Box_lose sg (xs ((x3 + (1 : Int32))).toNatClampNeg)).bind fun y154 =>
                                                              if inb (x3 + (1 : Int32)) L = true then
                                                                (f_Mod_lose y154.2 (xs ((x3 + (1 : Int32))).toNatClampNeg)).bind fun y156 =>
                                                                  if y154.1 = y156.1 then
                                                                    f_Law_law_1246 L xs (f_Law_law_18 L xs n) y156.2 x3
                                                                  else
                                                                    some ((0 : Int32), y156.2)
                                                              else none
                                                          else none
                                                        else
                                                          if ((xs (x3).toNatClampNeg) &&& (31 : Int32)) = (25 : Int32) then
                                                            if inb (x3 + (1 : Int32)) L = true then
                                                              if inb (x3 + (2 : Int32)) L = true then
                                                                if inb (x3 + (3 : Int32)) L = true then
                                                                  if inb (x3 + (4 : Int32)) L = true then
                                                                    (f_Box_lay sg (xs ((x3 + (1 : Int32))).toNatClampNeg) (xs ((x3 + (2 : Int32))).toNatClampNeg) (xs ((x3 + (3 : Int32))).toNatClampNeg) (xs ((x3 + (4 : Int32))).toNatClampNeg)).bind fun y161 =>
                                                                      if inb (x3 + (1 : Int32)) L = true then
                                                                        if inb (x3 + (2 : Int32)) L = true then
                                                                          if inb (x3 + (3 : Int32)) L = true then
                                                                            if inb (x3 + (4 : Int32)) L = true then
                                                                              (f_Mod_lay y161.2 (xs ((x3 + (1 : Int32))).toNatClampNeg) (xs ((x3 + (2 : Int32))).toNatClampNeg) (xs ((x3 + (3 : Int32))).toNatClampNeg) (xs ((x3 + (4 : Int32))).toNatClampNeg)).bind fun y166 =>
                                                                                if y161.1 = y166.1 then
                                                                                  f_Law_law_1246 L xs (f_Law_law_18 L xs n) y166.2 x3
                                                                                else
                                                                                  some ((0 : Int32), y166.2)
                                                                            else none
                                                                          else none
                                                                        else none
                                                                      else none
                                                                  else none
                                                                else none
                                                              else none
                                                            else none
                                                          else
                                                            if ((xs (x3).toNatClampNeg) &&& (31 : Int32)) = (26 : Int32) then
                                                              if inb (x3 + (1 : Int32)) L = true then
                                                                if inb (x3 + (2 : Int32)) L = true then
                                                                  if inb (x3 + (3 : Int32)) L = true then
                                                                    (f_Box_get sg (xs ((x3 + (1 : Int32))).toNatClampNeg) (xs ((x3 + (2 : Int32))).toNatClampNeg) (xs ((x3 + (3 : Int32))).toNatClampNeg)).bind fun y170 =>
                                                                      if inb (x3 + (1 : Int32)) L = true then
                                                                        if inb (x3 + (2 : Int32)) L = true then
                                                                          if inb (x3 + (3 : Int32)) L = true then
                                                                            (f_Mod_get y170.2 (xs ((x3 + (1 : Int32))).toNatClampNeg) (xs ((x3 + (2 : Int32))).toNatClampNeg) (xs ((x3 + (3 : Int32))).toNatClampNeg)).bind fun y174 =>
                                                                              if y170.1 = y174.1 then
                                                                                f_Law_law_1246 L xs (f_Law_law_18 L xs n) y174.2 x3
                                                                              else
                                                                                some ((0 : Int32), y174.2)
                                                                          else none
                                                                        else none
                                                                      else none
                                                                  else none
                                                                else none
                                                              else none
                                                            else
                                                              if ((xs (x3).toNatClampNeg) &&& (31 : Int32)) = (27 : Int32) then
                                                                if inb (x3 + (1 : Int32)) L = true then
                                                                  if inb (x3 + (2 : Int32)) L = true then
                                                                    if inb (x3 + (3 : Int32)) L = true then
                                                                      if inb (x3 + (4 : Int32)) L = true then
                                                                        if inb (x3 + (5 : Int32)) L = true then
                                                                          (f_Box_copy sg (xs ((x3 + (1 : Int32))).toNatClampNeg) (xs ((x3 + (2 : Int32))).toNatClampNeg) (xs ((x3 + (3 : Int32))).toNatClampNeg) (xs ((x3 + (4 : Int32))).toNatClampNeg) (xs ((x3 + (5 : Int32))).toNatClampNeg)).bind fun y180 =>
                                                                            if inb (x3 + (1 : Int32)) L = true then
                                                                              if inb (x3 + (2 : Int32)) L = true then
                                                                                if inb (x3 + (3 : Int32)) L = true then
                                                                                  if inb (x3 + (4 : Int32)) L = true then
                                                                                    if inb (x3 + (5 : Int32)) L = true then
                                                                                      (f_Mod_copy y180.2 (xs ((x3 + (1 : Int32))).toNatClampNeg) (xs ((x3 + (2 : Int32))).toNatClampNeg) (xs ((x3 + (3 : Int32))).toNatClampNeg) (xs ((x3 + (4 : Int32))).toNatClampNeg) (xs ((x3 + (5 : Int32))).toNatClampNeg)).bind fun y186 =>
                                                                                        if y180.1 = y186.1 then
                                                                                          f_Law_law_1246 L xs (f_Law_law_18 L xs n) y186.2 x3
                                                                                        else
                                                                                          some ((0 : Int32), y186.2)
                                                                                    else none
                                                                                  else none
                                                                                else none
                                                                              else none
                                                                            else none
                                                                        else none
                                                                      else none
                                                                    else none
                                                                  else none
                                                                else none
                                                              else
                                                                if ((xs (x3).toNatClampNeg) &&& (31 : Int32)) = (28 : Int32) then
                                                                  if inb (x3 + (1 : Int32)) L = true then
                                                                    if inb (x3 + (2 : Int32)) L = true then
                                                                      (f_Box_write sg (xs ((x3 + (1 : Int32))).toNatClampNeg) (xs ((x3 + (2 : Int32))).toNatClampNeg)).bind fun y189 =>
                                                                        if inb (x3 + (1 : Int32)) L = true then
                                                                          if inb (x3 + (2 : Int32)) L = true then
                                                                            (f_Mod_write y189.2 (xs ((x3 + (1 : Int32))).toNatClampNeg) (xs ((x3 + (2 : Int32))).toNatClampNeg)).bind fun y192 =>
                                                                              if y189.1 = y192.1 then
                                                                                f_Law_law_1246 L xs (f_Law_law_18 L xs n) y192.2 x3
                                                                              else
                                                                                some ((0 : Int32), y192.2)
                                                                          else none
                                                                        else none
                                                                    else none
                                                                  else none
                                                                else
                                                                  if ((xs (x3).toNatClampNeg) &&& (31 : Int32)) = (29 : Int32) then
                                                                    if inb (x3 + (1 : Int32)) L = true then
                                                                      (f_Box_count sg (xs ((x3 + (1 : Int32))).toNatClampNeg)).bind fun y194 =>
                                                                        if inb (x3 + (1 : Int32)) L = true then
                                                                          (f_Mod_count y194.2 (xs ((x3 + (1 : Int32))).toNatClampNeg)).bind fun y196 =>
                                                                            if y194.1 = y196.1 then
                                                                              f_Law_law_1246 L xs (f_Law_law_18 L xs n) y196.2 x3
                                                                            else
                                                                              some ((0 : Int32), y196.2)
                                                                        else none
                                                                    else none
                                                                  else
                                                                    if ((xs (x3).toNatClampNeg) &&& (31 : Int32)) = (30 : Int32) then
                                                                      (f_Box_digest sg ).bind fun y197 =>
                                                                        (f_Mod_digest y197.2 ).bind fun y198 =>
                                                                          if (lg_cmp y197.1 y198.1) = (0 : Int32) then
                                                                            f_Law_law_1246 L xs (f_Law_law_18 L xs n) y198.2 x3
                                                                          else
                                                                            some ((0 : Int32), y198.2)
                                                                    else
                                                                      f_Law_law_1246 L xs (f_Law_law_18 L xs n) sg x3
      else none
end
section
set_option maxRecDepth 100000 in
set_option maxHeartbeats 4000000 in
theorem t_Box_axisOf (d : Nat) (sg : Hp) (x0 : Int32)  (y : Int32 × Hp) (h : f_Box_axisOf sg x0 = some y) : Sm (d + 0) 11 [.int x0] sg (some (.int y.1)) y.2 := by
  unfold f_Box_axisOf at h
  refine Sm.of (lv := [(0, .int x0)]) rfl ?_
  refine G_iload rfl rfl ?_
  refine G_iconst (1 : Int32) rfl (by decide) ?_
  refine G_iadd rfl ?_
  refine G_iconst (3 : Int32) rfl (by decide) ?_
  refine G_irem rfl (by decide) ?_
  cases h
  exact G_iret rfl rfl
set_option maxRecDepth 100000 in
set_option maxHeartbeats 4000000 in
theorem t_Spot_set (d : Nat) (sg : Hp) (a0 : Nat) (a1 : Nat) (x2 : Int32) (x3 : Int32) (x4 : Int32) (h0 : clsOf a0 = 5) (h1 : clsOf a1 = 20) (g1 : lenOf a1 = 3) (y : Hp) (h : f_Spot_set sg a0 a1 x2 x3 x4 = some y) : Sm (d + 0) 14 [.ref a0, .ref a1, .int x2, .int x3, .int x4] sg none y := by
  unfold f_Spot_set at h
  refine Sm.of (lv := [(0, .ref a0), (1, .ref a1), (2, .int x2), (3, .int x3), (4, .int x4)]) rfl ?_
  refine G_aload rfl rfl ?_
  refine G_getR (ci := 5) (rt a0 0) rfl h0 rfl rfl rfl ?_
  refine G_iconst (0 : Int32) rfl (by decide) ?_
  refine G_iload rfl rfl ?_
  refine G_iastL 0 rfl (rt_cls h0 0 rfl).1 (rt_cls h0 0 rfl).2 (by decide) (by decide) ?_
  refine G_aload rfl rfl ?_
  refine G_getR (ci := 5) (rt a0 0) rfl h0 rfl rfl rfl ?_
  refine G_iconst (1 : Int32) rfl (by decide) ?_
  refine G_aload rfl rfl ?_
  refine G_iconst (0 : Int32) rfl (by decide) ?_
  refine G_ialdL 0 rfl h1 g1 (by decide) (by decide) ?_
  refine G_iload rfl rfl ?_
  refine G_isub rfl ?_
  refine G_iastL 1 rfl (rt_cls h0 0 rfl).1 (rt_cls h0 0 rfl).2 (by decide) (by decide) ?_
  refine G_aload rfl rfl ?_
  refine G_getR (ci := 5) (rt a0 0) rfl h0 rfl rfl rfl ?_
  refine G_iconst (2 : Int32) rfl (by decide) ?_
  refine G_iload rfl rfl ?_
  refine G_iastL 2 rfl (rt_cls h0 0 rfl).1 (rt_cls h0 0 rfl).2 (by decide) (by decide) ?_
  refine G_aload rfl rfl ?_
  refine G_getR (ci := 5) (rt a0 0) rfl h0 rfl rfl rfl ?_
  refine G_iconst (3 : Int32) rfl (by decide) ?_
  refine G_aload rfl rfl ?_
  refine G_iconst (1 : Int32) rfl (by decide) ?_
  refine G_ialdL 1 rfl h1 g1 (by decide) (by decide) ?_
  refine G_iload rfl rfl ?_
  refine G_isub rfl ?_
  refine G_iastL 3 rfl (rt_cls h0 0 rfl).1 (rt_cls h0 0 rfl).2 (by decide) (by decide) ?_
  refine G_aload rfl rfl ?_
  refine G_getR (ci := 5) (rt a0 0) rfl h0 rfl rfl rfl ?_
  refine G_iconst (4 : Int32) rfl (by decide) ?_
  refine G_iload rfl rfl ?_
  refine G_iastL 4 rfl (rt_cls h0 0 rfl).1 (rt_cls h0 0 rfl).2 (by decide) (by decide) ?_
  refine G_aload rfl rfl ?_
  refine G_getR (ci := 5) (rt a0 0) rfl h0 rfl rfl rfl ?_
  refine G_iconst (5 : Int32) rfl (by decide) ?_
  refine G_aload rfl rfl ?_
  refine G_iconst (2 : Int32) rfl (by decide) ?_
  refine G_ialdL 2 rfl h1 g1 (by decide) (by decide) ?_
  refine G_iload rfl rfl ?_
  refine G_isub rfl ?_
  refine G_iastL 5 rfl (rt_cls h0 0 rfl).1 (rt_cls h0 0 rfl).2 (by decide) (by decide) ?_
  cases h
  exact G_vret rfl rfl
set_option maxRecDepth 100000 in
set_option maxHeartbeats 4000000 in
theorem t_Spot_isOnBox_36 (d : Nat) {k4 : Hp → Nat → Int32 → Int32 → Option (Int32 × Hp)} (hk4 : ∀ (sg : Hp) (a0 : Nat) (x1 : Int32) (x2 : Int32) (h0 : clsOf a0 = 5) (y : Int32 × Hp), k4 sg a0 x1 x2 = some y → Go (d + 0) none 15 4 [(0, .ref a0), (1, .int x1), (2, .int x2)] [] sg (some (.int y.1)) y.2) (sg : Hp) (a0 : Nat) (x2 : Int32) (xs0 : Int32) (xs1 : Int32) (h0 : clsOf a0 = 5) (y : Int32 × Hp) (h : f_Spot_isOnBox_36 k4 sg a0 x2 xs0 xs1 = some y) : Go (d + 0) none 15 36 [(0, .ref a0), (2, .int x2)] [.int xs0, .int xs1] sg (some (.int y.1)) y.2 := by
  unfold f_Spot_isOnBox_36 at h
  refine G_ior rfl ?_
  refine G_istore rfl rfl ?_
  refine G_iinc (1 : Int32) rfl (by decide) rfl rfl ?_
  refine G_goto 4 rfl rfl ?_
  exact Go.weak' (hk4 _ _ _ _ h0 _ h) ⟨rfl, rfl, rfl, trivial⟩
set_option maxRecDepth 100000 in
set_option maxHeartbeats 4000000 in
theorem t_Spot_isOnBox_4 (d : Nat)   : ∀ (n : Nat) (sg : Hp) (a0 : Nat) (x1 : Int32) (x2 : Int32) (h0 : clsOf a0 = 5) (y : Int32 × Hp), f_Spot_isOnBox_4  n sg a0 x1 x2 = some y → Go (d + 0) none 15 4 [(0, .ref a0), (1, .int x1), (2, .int x2)] [] sg (some (.int y.1)) y.2 := by
  intro n
  induction n with
  | zero =>
    intro sg a0 x1 x2 h0 y h
    rw [f_Spot_isOnBox_4] at h
    cases h
  | succ n ih =>
    intro sg a0 x1 x2 h0 y h
    rw [f_Spot_isOnBox_4] at h
    refine G_iload rfl rfl ?_
    refine G_iconst (6 : Int32) rfl (by decide) ?_
    refine G_ic_ge 44 rfl rfl (fun hc => ?_) (fun hc => ?_)
    · rw [if_pos hc] at h
      refine G_iload rfl rfl ?_
      obtain ⟨hz, h⟩ := if_some h
      cases h
      exact G_iret rfl (retZ_b rfl hz)
    · rw [if_neg hc] at h
      refine G_aload rfl rfl ?_
      refine G_getR (ci := 5) (rt a0 0) rfl h0 rfl rfl rfl ?_
      refine G_iload rfl rfl ?_
      obtain ⟨hg1, h⟩ := if_some h
      refine G_iald rfl (rt_cls h0 0 rfl).1 (rt_cls h0 0 rfl).2 hg1 ?_
      refine G_if_ge 21 rfl rfl (fun hc => ?_) (fun hc => ?_)
      · rw [if_pos hc] at h
        refine G_iload rfl rfl ?_
        refine G_aload rfl rfl ?_
        refine G_getR (ci := 5) (rt a0 0) rfl h0 rfl rfl rfl ?_
        refine G_iload rfl rfl ?_
        obtain ⟨hg2, h⟩ := if_some h
        refine G_iald rfl (rt_cls h0 0 rfl).1 (rt_cls h0 0 rfl).2 hg2 ?_
        refine G_if_ne 35 rfl rfl (fun hc => ?_) (fun hc => ?_)
        · rw [if_neg hc] at h
          refine G_iconst (0 : Int32) rfl (by decide) ?_
          exact Go.weak' (t_Spot_isOnBox_36 d ih _ _ _ _ _ h0 _ h) ⟨rfl, rfl, trivial⟩
        · rw [if_pos hc] at h
          refine G_iconst (1 : Int32) rfl (by decide) ?_
          refine G_goto 36 rfl rfl ?_
          exact Go.weak' (t_Spot_isOnBox_36 d ih _ _ _ _ _ h0 _ h) ⟨rfl, rfl, trivial⟩
      · rw [if_neg hc] at h
        refine G_iconst (0 : Int32) rfl (by decide) ?_
        cases h
        exact G_iret rfl rfl
set_option maxRecDepth 100000 in
set_option maxHeartbeats 4000000 in
theorem t_Spot_isOnBox (d : Nat) (sg : Hp) (a0 : Nat) (h0 : clsOf a0 = 5) (y : Int32 × Hp) (h : f_Spot_isOnBox sg a0 = some y) : Sm (d + 0) 15 [.ref a0] sg (some (.int y.1)) y.2 := by
  unfold f_Spot_isOnBox at h
  refine Sm.of (lv := [(0, .ref a0)]) rfl ?_
  refine G_iconst (0 : Int32) rfl (by decide) ?_
  refine G_istore rfl rfl ?_
  refine G_iconst (0 : Int32) rfl (by decide) ?_
  refine G_istore rfl rfl ?_
  exact Go.weak' (t_Spot_isOnBox_4 d  _ _ _ _ _ h0 _ h) ⟨rfl, rfl, rfl, trivial⟩
set_option maxRecDepth 100000 in
set_option maxHeartbeats 4000000 in
theorem t_Room_holds (d : Nat) (sg : Hp) (x1 : Int32) (x2 : Int32) (x3 : Int32)  (y : Int32 × Hp) (h : f_Room_holds sg x1 x2 x3 = some y) : Sm (d + 1) 13 [.ref 1, .int x1, .int x2, .int x3] sg (some (.int y.1)) y.2 := by
  unfold f_Room_holds at h
  refine Sm.of (lv := [(0, .ref 1), (1, .int x1), (2, .int x2), (3, .int x3)]) rfl ?_
  refine G_aload rfl rfl ?_
  refine G_getR (ci := 2) 7 rfl rfl rfl rfl rfl ?_
  refine G_aload rfl rfl ?_
  refine G_getR (ci := 2) 2 rfl rfl rfl rfl rfl ?_
  refine G_iload rfl rfl ?_
  refine G_iload rfl rfl ?_
  refine G_iload rfl rfl ?_
  obtain ⟨y1, hy1, h⟩ := Option.bind_eq_some_iff.mp h
  refine G_callvV 5 (t_Spot_set _ _ _ _ _ _ _ rfl rfl rfl _ hy1) rfl rfl rfl rfl rfl rfl rfl rfl rfl rfl rfl ?_
  refine G_aload rfl rfl ?_
  refine G_getR (ci := 2) 7 rfl rfl rfl rfl rfl ?_
  obtain ⟨y2, hy2, h⟩ := Option.bind_eq_some_iff.mp h
  refine G_callvI 1 (t_Spot_isOnBox _ _ _ rfl _ hy2) rfl rfl rfl rfl rfl rfl rfl rfl rfl rfl rfl ?_
  obtain ⟨hz, h⟩ := if_some h
  cases h
  exact G_iret rfl (retZ_b rfl hz)
set_option maxRecDepth 100000 in
set_option maxHeartbeats 4000000 in
theorem t_Room_move (d : Nat) (sg : Hp) (x1 : Int32) (x2 : Int32) (x3 : Int32) (x4 : Int32)  (y : Hp) (h : f_Room_move sg x1 x2 x3 x4 = some y) : Sm (d + 0) 16 [.ref 1, .int x1, .int x2, .int x3, .int x4] sg none y := by
  unfold f_Room_move at h
  refine Sm.of (lv := [(0, .ref 1), (1, .int x1), (2, .int x2), (3, .int x3), (4, .int x4)]) rfl ?_
  refine G_aload rfl rfl ?_
  refine G_getR (ci := 2) 3 rfl rfl rfl rfl rfl ?_
  refine G_iload rfl rfl ?_
  refine G_iload rfl rfl ?_
  obtain ⟨hg1, h⟩ := if_some h
  refine G_iast rfl rfl rfl hg1 ?_
  refine G_aload rfl rfl ?_
  refine G_getR (ci := 2) 4 rfl rfl rfl rfl rfl ?_
  refine G_iload rfl rfl ?_
  refine G_iload rfl rfl ?_
  obtain ⟨hg2, h⟩ := if_some h
  refine G_iast rfl rfl rfl hg2 ?_
  refine G_aload rfl rfl ?_
  refine G_getR (ci := 2) 5 rfl rfl rfl rfl rfl ?_
  refine G_iload rfl rfl ?_
  refine G_iload rfl rfl ?_
  obtain ⟨hg3, h⟩ := if_some h
  refine G_iast rfl rfl rfl hg3 ?_
  refine G_aload rfl rfl ?_
  refine G_dupr rfl ?_
  refine G_getI (ci := 2) 6 rfl rfl rfl rfl rfl ?_
  refine G_iconst (1 : Int32) rfl (by decide) ?_
  refine G_iadd rfl ?_
  refine G_putI (ci := 2) 6 rfl rfl rfl rfl rfl ?_
  cases h
  exact G_vret rfl rfl
set_option maxRecDepth 100000 in
set_option maxHeartbeats 4000000 in
theorem t_Room_stretch_61 (d : Nat) {k17 : Hp → Int32 → Int32 → Option (Int32 × Hp)} (hk17 : ∀ (sg : Hp) (x3 : Int32) (x4 : Int32)  (y : Int32 × Hp), k17 sg x3 x4 = some y → Go (d + 2) none 12 17 [(0, .ref 1), (3, .int x3), (4, .int x4)] [] sg (some (.int y.1)) y.2) (sg : Hp) (x3 : Int32) (x4 : Int32)  (y : Int32 × Hp) (h : f_Room_stretch_61 k17 sg x3 x4 = some y) : Go (d + 2) none 12 61 [(0, .ref 1), (3, .int x3), (4, .int x4)] [] sg (some (.int y.1)) y.2 := by
  unfold f_Room_stretch_61 at h
  refine G_iinc (1 : Int32) rfl (by decide) rfl rfl ?_
  refine G_goto 17 rfl rfl ?_
  exact Go.weak' (hk17 _ _ _  _ h) ⟨rfl, rfl, rfl, trivial⟩
set_option maxRecDepth 100000 in
set_option maxHeartbeats 4000000 in
theorem t_Room_stretch_17 (d : Nat)   : ∀ (n : Nat) (sg : Hp) (x3 : Int32) (x4 : Int32)  (y : Int32 × Hp), f_Room_stretch_17  n sg x3 x4 = some y → Go (d + 2) none 12 17 [(0, .ref 1), (3, .int x3), (4, .int x4)] [] sg (some (.int y.1)) y.2 := by
  intro n
  induction n with
  | zero =>
    intro sg x3 x4 y h
    rw [f_Room_stretch_17] at h
    cases h
  | succ n ih =>
    intro sg x3 x4 y h
    rw [f_Room_stretch_17] at h
    refine G_iload rfl rfl ?_
    refine G_iconst (8 : Int32) rfl (by decide) ?_
    refine G_ic_ge 67 rfl rfl (fun hc => ?_) (fun hc => ?_)
    · rw [if_pos hc] at h
      refine G_aload rfl rfl ?_
      refine G_dupr rfl ?_
      refine G_getI (ci := 2) 6 rfl rfl rfl rfl rfl ?_
      refine G_iconst (1 : Int32) rfl (by decide) ?_
      refine G_iadd rfl ?_
      refine G_putI (ci := 2) 6 rfl rfl rfl rfl rfl ?_
      refine G_iload rfl rfl ?_
      cases h
      exact G_iret rfl rfl
    · rw [if_neg hc] at h
      refine G_aload rfl rfl ?_
      refine G_aload rfl rfl ?_
      refine G_getR (ci := 2) 3 rfl rfl rfl rfl rfl ?_
      refine G_iload rfl rfl ?_
      obtain ⟨hg3, h⟩ := if_some h
      refine G_iald rfl rfl rfl hg3 ?_
      refine G_aload rfl rfl ?_
      refine G_getR (ci := 2) 4 rfl rfl rfl rfl rfl ?_
      refine G_iload rfl rfl ?_
      obtain ⟨hg4, h⟩ := if_some h
      refine G_iald rfl rfl rfl hg4 ?_
      refine G_aload rfl rfl ?_
      refine G_getR (ci := 2) 5 rfl rfl rfl rfl rfl ?_
      refine G_iload rfl rfl ?_
      obtain ⟨hg5, h⟩ := if_some h
      refine G_iald rfl rfl rfl hg5 ?_
      obtain ⟨y6, hy6, h⟩ := Option.bind_eq_some_iff.mp h
      refine G_callvI 4 (t_Room_holds _ _ _ _ _  _ hy6) rfl rfl rfl rfl rfl rfl rfl rfl rfl rfl rfl ?_
      refine G_if_ne 61 rfl rfl (fun hc => ?_) (fun hc => ?_)
      · rw [if_neg hc] at h
        exact Go.weak' (t_Room_stretch_61 d ih _ _ _  _ h) ⟨rfl, rfl, rfl, trivial⟩
      · rw [if_pos hc] at h
        refine G_aload rfl rfl ?_
        refine G_iload rfl rfl ?_
        refine G_iconst (0 : Int32) rfl (by decide) ?_
        refine G_iconst (0 : Int32) rfl (by decide) ?_
        refine G_iconst (0 : Int32) rfl (by decide) ?_
        obtain ⟨y7, hy7, h⟩ := Option.bind_eq_some_iff.mp h
        refine G_callvV 5 (t_Room_move _ _ _ _ _ _  _ hy7) rfl rfl rfl rfl rfl rfl rfl rfl rfl rfl rfl ?_
        exact Go.weak' (t_Room_stretch_61 d ih _ _ _  _ h) ⟨rfl, rfl, rfl, trivial⟩
set_option maxRecDepth 100000 in
set_option maxHeartbeats 4000000 in
theorem t_Room_stretch (d : Nat) (sg : Hp) (x1 : Int32) (x2 : Int32)  (y : Int32 × Hp) (h : f_Room_stretch sg x1 x2 = some y) : Sm (d + 2) 12 [.ref 1, .int x1, .int x2] sg (some (.int y.1)) y.2 := by
  unfold f_Room_stretch at h
  refine Sm.of (lv := [(0, .ref 1), (1, .int x1), (2, .int x2)]) rfl ?_
  refine G_aload rfl rfl ?_
  refine G_getR (ci := 2) 2 rfl rfl rfl rfl rfl ?_
  refine G_iload rfl rfl ?_
  obtain ⟨hg1, h⟩ := if_some h
  refine G_iald rfl rfl rfl hg1 ?_
  refine G_istore rfl rfl ?_
  refine G_aload rfl rfl ?_
  refine G_getR (ci := 2) 2 rfl rfl rfl rfl rfl ?_
  refine G_iload rfl rfl ?_
  refine G_iload rfl rfl ?_
  obtain ⟨hg2, h⟩ := if_some h
  refine G_iast rfl rfl rfl hg2 ?_
  refine G_iconst (0 : Int32) rfl (by decide) ?_
  refine G_istore rfl rfl ?_
  exact Go.weak' (t_Room_stretch_17 d  _ _ _ _  _ h) ⟨rfl, rfl, rfl, trivial⟩
set_option maxRecDepth 100000 in
set_option maxHeartbeats 4000000 in
theorem t_Box_side (d : Nat) (sg : Hp) (x1 : Int32) (x2 : Int32)  (y : Int32 × Hp) (h : f_Box_side sg x1 x2 = some y) : Sm (d + 3) 10 [.ref 0, .int x1, .int x2] sg (some (.int y.1)) y.2 := by
  unfold f_Box_side at h
  refine Sm.of (lv := [(0, .ref 0), (1, .int x1), (2, .int x2)]) rfl ?_
  refine G_iload rfl rfl ?_
  refine G_if_lt 20 rfl rfl (fun hc => ?_) (fun hc => ?_)
  · rw [if_pos hc] at h
    refine G_iconst (-2 : Int32) rfl (by decide) ?_
    cases h
    exact G_iret rfl rfl
  · rw [if_neg hc] at h
    refine G_iload rfl rfl ?_
    refine G_iconst (3 : Int32) rfl (by decide) ?_
    refine G_ic_ge 20 rfl rfl (fun hc => ?_) (fun hc => ?_)
    · rw [if_pos hc] at h
      refine G_iconst (-2 : Int32) rfl (by decide) ?_
      cases h
      exact G_iret rfl rfl
    · rw [if_neg hc] at h
      refine G_iload rfl rfl ?_
      refine G_iconst (1 : Int32) rfl (by decide) ?_
      refine G_ic_lt 20 rfl rfl (fun hc => ?_) (fun hc => ?_)
      · rw [if_pos hc] at h
        refine G_iconst (-2 : Int32) rfl (by decide) ?_
        cases h
        exact G_iret rfl rfl
      · rw [if_neg hc] at h
        refine G_iload rfl rfl ?_
        refine G_iconst (30 : Int32) rfl (by decide) ?_
        refine G_ic_le 23 rfl rfl (fun hc => ?_) (fun hc => ?_)
        · rw [if_pos hc] at h
          refine G_aload rfl rfl ?_
          refine G_getR (ci := 9) 1 rfl rfl rfl rfl rfl ?_
          refine G_iload rfl rfl ?_
          obtain ⟨y1, hy1, h⟩ := Option.bind_eq_some_iff.mp h
          refine G_callsI 1 (t_Box_axisOf _ _ _  _ hy1) rfl rfl rfl rfl rfl rfl rfl rfl rfl ?_
          refine G_iload rfl rfl ?_
          obtain ⟨y2, hy2, h⟩ := Option.bind_eq_some_iff.mp h
          refine G_callvI 3 (t_Room_stretch _ _ _ _  _ hy2) rfl rfl rfl rfl rfl rfl rfl rfl rfl rfl rfl ?_
          cases h
          exact G_iret rfl rfl
        · rw [if_neg hc] at h
          refine G_iconst (-2 : Int32) rfl (by decide) ?_
          cases h
          exact G_iret rfl rfl
set_option maxRecDepth 100000 in
set_option maxHeartbeats 4000000 in
theorem t_Mod_in (d : Nat) (sg : Hp) (l0 : Int64) (l2 : Int64) (l4 : Int64)  (y : Int32 × Hp) (h : f_Mod_in sg l0 l2 l4 = some y) : Sm (d + 0) 101 [.long l0, .long l2, .long l4] sg (some (.int y.1)) y.2 := by
  unfold f_Mod_in at h
  refine Sm.of (lv := [(0, .long l0), (2, .long l2), (4, .long l4)]) rfl ?_
  refine G_lload rfl rfl ?_
  refine G_lload rfl rfl ?_
  refine G_lcmp rfl ?_
  refine G_if_lt 17 rfl rfl (fun hc => ?_) (fun hc => ?_)
  · rw [if_pos hc] at h
    refine G_iconst (0 : Int32) rfl (by decide) ?_
    cases h
    exact G_iret rfl rfl
  · rw [if_neg hc] at h
    refine G_lload rfl rfl ?_
    refine G_lload rfl rfl ?_
    refine G_lcmp rfl ?_
    refine G_if_gt 17 rfl rfl (fun hc => ?_) (fun hc => ?_)
    · rw [if_pos hc] at h
      refine G_iconst (0 : Int32) rfl (by decide) ?_
      cases h
      exact G_iret rfl rfl
    · rw [if_neg hc] at h
      refine G_iconst (1 : Int32) rfl (by decide) ?_
      refine G_goto 18 rfl rfl ?_
      cases h
      exact G_iret rfl rfl
set_option maxRecDepth 100000 in
set_option maxHeartbeats 4000000 in
theorem t_Mod_axisOf (d : Nat) (sg : Hp) (x0 : Int32)  (y : Int32 × Hp) (h : f_Mod_axisOf sg x0 = some y) : Sm (d + 0) 113 [.int x0] sg (some (.int y.1)) y.2 := by
  unfold f_Mod_axisOf at h
  refine Sm.of (lv := [(0, .int x0)]) rfl ?_
  refine G_iload rfl rfl ?_
  refine G_iconst (2 : Int32) rfl (by decide) ?_
  refine G_ic_ge 9 rfl rfl (fun hc => ?_) (fun hc => ?_)
  · rw [if_pos hc] at h
    refine G_iload rfl rfl ?_
    refine G_iconst (4 : Int32) rfl (by decide) ?_
    refine G_ic_ge 18 rfl rfl (fun hc => ?_) (fun hc => ?_)
    · rw [if_pos hc] at h
      refine G_iconst (1 : Int32) rfl (by decide) ?_
      cases h
      exact G_iret rfl rfl
    · rw [if_neg hc] at h
      refine G_iconst (0 : Int32) rfl (by decide) ?_
      refine G_goto 19 rfl rfl ?_
      cases h
      exact G_iret rfl rfl
  · rw [if_neg hc] at h
    refine G_iconst (2 : Int32) rfl (by decide) ?_
    refine G_goto 19 rfl rfl ?_
    cases h
    exact G_iret rfl rfl
set_option maxRecDepth 100000 in
set_option maxHeartbeats 4000000 in
theorem t_Mod_liesOn_48 (d : Nat)   (sg : Hp) (xs0 : Int32) (xs1 : Int32)  (y : Int32 × Hp) (h : f_Mod_liesOn_48  sg xs0 xs1 = some y) : Go (d + 1) none 112 48 [] [.int xs0, .int xs1] sg (some (.int y.1)) y.2 := by
  unfold f_Mod_liesOn_48 at h
  refine G_ic_ne 55 rfl rfl (fun hc => ?_) (fun hc => ?_)
  · rw [if_neg hc] at h
    refine G_iconst (0 : Int32) rfl (by decide) ?_
    cases h
    exact G_iret rfl rfl
  · rw [if_pos hc] at h
    refine G_iconst (1 : Int32) rfl (by decide) ?_
    refine G_goto 56 rfl rfl ?_
    cases h
    exact G_iret rfl rfl
set_option maxRecDepth 100000 in
set_option maxHeartbeats 4000000 in
theorem t_Mod_liesOn_27 (d : Nat)   (sg : Hp) (x1 : Int32) (x5 : Int32) (xs0 : Int32)  (y : Int32 × Hp) (h : f_Mod_liesOn_27  sg x1 x5 xs0 = some y) : Go (d + 1) none 112 27 [(0, .ref 46), (1, .int x1), (5, .int x5)] [.int xs0] sg (some (.int y.1)) y.2 := by
  unfold f_Mod_liesOn_27 at h
  refine G_istore rfl rfl ?_
  refine G_iload rfl rfl ?_
  refine G_iload rfl rfl ?_
  refine G_iconst (2 : Int32) rfl (by decide) ?_
  refine G_irem rfl (by decide) ?_
  refine G_if_ne 41 rfl rfl (fun hc => ?_) (fun hc => ?_)
  · rw [if_neg hc] at h
    refine G_aload rfl rfl ?_
    refine G_getR (ci := 10) 51 rfl rfl rfl rfl rfl ?_
    refine G_iload rfl rfl ?_
    obtain ⟨hg2, h⟩ := if_some h
    refine G_iald rfl rfl rfl hg2 ?_
    exact Go.weak' (t_Mod_liesOn_48 d  _ _ _  _ h) trivial
  · rw [if_pos hc] at h
    refine G_iconst (0 : Int32) rfl (by decide) ?_
    refine G_goto 48 rfl rfl ?_
    exact Go.weak' (t_Mod_liesOn_48 d  _ _ _  _ h) trivial
set_option maxRecDepth 100000 in
set_option maxHeartbeats 4000000 in
theorem t_Mod_liesOn (d : Nat) (sg : Hp) (x1 : Int32) (x2 : Int32) (x3 : Int32) (x4 : Int32)  (y : Int32 × Hp) (h : f_Mod_liesOn sg x1 x2 x3 x4 = some y) : Sm (d + 1) 112 [.ref 46, .int x1, .int x2, .int x3, .int x4] sg (some (.int y.1)) y.2 := by
  unfold f_Mod_liesOn at h
  refine Sm.of (lv := [(0, .ref 46), (1, .int x1), (2, .int x2), (3, .int x3), (4, .int x4)]) rfl ?_
  refine G_iload rfl rfl ?_
  obtain ⟨y1, hy1, h⟩ := Option.bind_eq_some_iff.mp h
  refine G_callsI 1 (t_Mod_axisOf _ _ _  _ hy1) rfl rfl rfl rfl rfl rfl rfl rfl rfl ?_
  refine G_istore rfl rfl ?_
  refine G_iload rfl rfl ?_
  refine G_if_ne 15 rfl rfl (fun hc => ?_) (fun hc => ?_)
  · rw [if_neg hc] at h
    refine G_iload rfl rfl ?_
    refine G_iconst (1 : Int32) rfl (by decide) ?_
    refine G_ic_ne 25 rfl rfl (fun hc => ?_) (fun hc => ?_)
    · rw [if_neg hc] at h
      refine G_iload rfl rfl ?_
      exact Go.weak' (t_Mod_liesOn_27 d  _ _ _ _  _ h) ⟨rfl, rfl, rfl, trivial⟩
    · rw [if_pos hc] at h
      refine G_iload rfl rfl ?_
      refine G_goto 27 rfl rfl ?_
      exact Go.weak' (t_Mod_liesOn_27 d  _ _ _ _  _ h) ⟨rfl, rfl, rfl, trivial⟩
  · rw [if_pos hc] at h
    refine G_iload rfl rfl ?_
    refine G_goto 27 rfl rfl ?_
    exact Go.weak' (t_Mod_liesOn_27 d  _ _ _ _  _ h) ⟨rfl, rfl, rfl, trivial⟩
set_option maxRecDepth 100000 in
set_option maxHeartbeats 4000000 in
theorem t_Mod_isOnBox_90 (d : Nat) {k61 : Hp → Int32 → Int32 → Int32 → Int32 → Int32 → Int32 → Option (Int32 × Hp)} (hk61 : ∀ (sg : Hp) (x1 : Int32) (x2 : Int32) (x3 : Int32) (x4 : Int32) (x5 : Int32) (x6 : Int32)  (y : Int32 × Hp), k61 sg x1 x2 x3 x4 x5 x6 = some y → Go (d + 2) none 111 61 [(0, .ref 46), (1, .int x1), (2, .int x2), (3, .int x3), (4, .int x4), (5, .int x5), (6, .int x6)] [] sg (some (.int y.1)) y.2) (sg : Hp) (x1 : Int32) (x2 : Int32) (x3 : Int32) (x4 : Int32) (x6 : Int32) (xs0 : Int32)  (y : Int32 × Hp) (h : f_Mod_isOnBox_90 k61 sg x1 x2 x3 x4 x6 xs0 = some y) : Go (d + 2) none 111 90 [(0, .ref 46), (1, .int x1), (2, .int x2), (3, .int x3), (4, .int x4), (6, .int x6)] [.int xs0] sg (some (.int y.1)) y.2 := by
  unfold f_Mod_isOnBox_90 at h
  refine G_istore rfl rfl ?_
  refine G_iinc (1 : Int32) rfl (by decide) rfl rfl ?_
  refine G_goto 61 rfl rfl ?_
  exact Go.weak' (hk61 _ _ _ _ _ _ _  _ h) ⟨rfl, rfl, rfl, rfl, rfl, rfl, rfl, trivial⟩
set_option maxRecDepth 100000 in
set_option maxHeartbeats 4000000 in
theorem t_Mod_isOnBox_85 (d : Nat) {k61 : Hp → Int32 → Int32 → Int32 → Int32 → Int32 → Int32 → Option (Int32 × Hp)} (hk61 : ∀ (sg : Hp) (x1 : Int32) (x2 : Int32) (x3 : Int32) (x4 : Int32) (x5 : Int32) (x6 : Int32)  (y : Int32 × Hp), k61 sg x1 x2 x3 x4 x5 x6 = some y → Go (d + 2) none 111 61 [(0, .ref 46), (1, .int x1), (2, .int x2), (3, .int x3), (4, .int x4), (5, .int x5), (6, .int x6)] [] sg (some (.int y.1)) y.2) (sg : Hp) (x1 : Int32) (x2 : Int32) (x3 : Int32) (x4 : Int32) (x6 : Int32)  (y : Int32 × Hp) (h : f_Mod_isOnBox_85 k61 sg x1 x2 x3 x4 x6 = some y) : Go (d + 2) none 111 85 [(0, .ref 46), (1, .int x1), (2, .int x2), (3, .int x3), (4, .int x4), (6, .int x6)] [] sg (some (.int y.1)) y.2 := by
  unfold f_Mod_isOnBox_85 at h
  refine G_iconst (1 : Int32) rfl (by decide) ?_
  refine G_goto 90 rfl rfl ?_
  exact Go.weak' (t_Mod_isOnBox_90 d hk61 _ _ _ _ _ _ _  _ h) ⟨rfl, rfl, rfl, rfl, rfl, rfl, trivial⟩
set_option maxRecDepth 100000 in
set_option maxHeartbeats 4000000 in
theorem t_Mod_isOnBox_61 (d : Nat)   : ∀ (n : Nat) (sg : Hp) (x1 : Int32) (x2 : Int32) (x3 : Int32) (x4 : Int32) (x5 : Int32) (x6 : Int32)  (y : Int32 × Hp), f_Mod_isOnBox_61  n sg x1 x2 x3 x4 x5 x6 = some y → Go (d + 2) none 111 61 [(0, .ref 46), (1, .int x1), (2, .int x2), (3, .int x3), (4, .int x4), (5, .int x5), (6, .int x6)] [] sg (some (.int y.1)) y.2 := by
  intro n
  induction n with
  | zero =>
    intro sg x1 x2 x3 x4 x5 x6 y h
    rw [f_Mod_isOnBox_61] at h
    cases h
  | succ n ih =>
    intro sg x1 x2 x3 x4 x5 x6 y h
    rw [f_Mod_isOnBox_61] at h
    refine G_iload rfl rfl ?_
    refine G_iconst (6 : Int32) rfl (by decide) ?_
    refine G_ic_ge 98 rfl rfl (fun hc => ?_) (fun hc => ?_)
    · rw [if_pos hc] at h
      refine G_iload rfl rfl ?_
      refine G_if_eq 112 rfl rfl (fun hc => ?_) (fun hc => ?_)
      · rw [if_pos hc] at h
        refine G_iconst (0 : Int32) rfl (by decide) ?_
        cases h
        exact G_iret rfl rfl
      · rw [if_neg hc] at h
        refine G_iload rfl rfl ?_
        refine G_if_eq 112 rfl rfl (fun hc => ?_) (fun hc => ?_)
        · rw [if_pos hc] at h
          refine G_iconst (0 : Int32) rfl (by decide) ?_
          cases h
          exact G_iret rfl rfl
        · rw [if_neg hc] at h
          refine G_iconst (1 : Int32) rfl (by decide) ?_
          refine G_goto 113 rfl rfl ?_
          cases h
          exact G_iret rfl rfl
    · rw [if_neg hc] at h
      refine G_iload rfl rfl ?_
      refine G_if_ne 85 rfl rfl (fun hc => ?_) (fun hc => ?_)
      · rw [if_neg hc] at h
        exact Go.weak' (t_Mod_isOnBox_85 d ih _ _ _ _ _ _  _ h) ⟨rfl, rfl, rfl, rfl, rfl, rfl, trivial⟩
      · rw [if_pos hc] at h
        refine G_aload rfl rfl ?_
        refine G_iload rfl rfl ?_
        refine G_iload rfl rfl ?_
        refine G_iload rfl rfl ?_
        refine G_iload rfl rfl ?_
        obtain ⟨y2, hy2, h⟩ := Option.bind_eq_some_iff.mp h
        refine G_callvI 5 (t_Mod_liesOn _ _ _ _ _ _  _ hy2) rfl rfl rfl rfl rfl rfl rfl rfl rfl rfl rfl ?_
        refine G_if_eq 89 rfl rfl (fun hc => ?_) (fun hc => ?_)
        · rw [if_pos hc] at h
          refine G_iconst (0 : Int32) rfl (by decide) ?_
          exact Go.weak' (t_Mod_isOnBox_90 d ih _ _ _ _ _ _ _  _ h) ⟨rfl, rfl, rfl, rfl, rfl, rfl, trivial⟩
        · rw [if_neg hc] at h
          exact Go.weak' (t_Mod_isOnBox_85 d ih _ _ _ _ _ _  _ h) ⟨rfl, rfl, rfl, rfl, rfl, rfl, trivial⟩
set_option maxRecDepth 100000 in
set_option maxHeartbeats 4000000 in
theorem t_Mod_isOnBox_53 (d : Nat)   (sg : Hp) (x1 : Int32) (x2 : Int32) (x3 : Int32) (xs0 : Int32)  (y : Int32 × Hp) (h : f_Mod_isOnBox_53  sg x1 x2 x3 xs0 = some y) : Go (d + 2) none 111 53 [(0, .ref 46), (1, .int x1), (2, .int x2), (3, .int x3)] [.int xs0] sg (some (.int y.1)) y.2 := by
  unfold f_Mod_isOnBox_53 at h
  refine G_istore rfl rfl ?_
  refine G_iconst (0 : Int32) rfl (by decide) ?_
  refine G_istore rfl rfl ?_
  refine G_iconst (0 : Int32) rfl (by decide) ?_
  refine G_istore rfl rfl ?_
  exact Go.weak' (t_Mod_isOnBox_61 d  _ _ _ _ _ _ _ _  _ h) ⟨rfl, rfl, rfl, rfl, rfl, rfl, rfl, trivial⟩
set_option maxRecDepth 100000 in
set_option maxHeartbeats 4000000 in
theorem t_Mod_isOnBox_52 (d : Nat)   (sg : Hp) (x1 : Int32) (x2 : Int32) (x3 : Int32)  (y : Int32 × Hp) (h : f_Mod_isOnBox_52  sg x1 x2 x3 = some y) : Go (d + 2) none 111 52 [(0, .ref 46), (1, .int x1), (2, .int x2), (3, .int x3)] [] sg (some (.int y.1)) y.2 := by
  unfold f_Mod_isOnBox_52 at h
  refine G_iconst (0 : Int32) rfl (by decide) ?_
  exact Go.weak' (t_Mod_isOnBox_53 d  _ _ _ _ _  _ h) ⟨rfl, rfl, rfl, rfl, trivial⟩
set_option maxRecDepth 100000 in
set_option maxHeartbeats 4000000 in
theorem t_Mod_isOnBox (d : Nat) (sg : Hp) (x1 : Int32) (x2 : Int32) (x3 : Int32)  (y : Int32 × Hp) (h : f_Mod_isOnBox sg x1 x2 x3 = some y) : Sm (d + 2) 111 [.ref 46, .int x1, .int x2, .int x3] sg (some (.int y.1)) y.2 := by
  unfold f_Mod_isOnBox at h
  refine Sm.of (lv := [(0, .ref 46), (1, .int x1), (2, .int x2), (3, .int x3)]) rfl ?_
  refine G_iload rfl rfl ?_
  refine G_i2l rfl ?_
  refine G_lconst (0 : Int64) rfl (by decide) ?_
  refine G_aload rfl rfl ?_
  refine G_getR (ci := 10) 51 rfl rfl rfl rfl rfl ?_
  refine G_iconst (0 : Int32) rfl (by decide) ?_
  refine G_ialdL 0 rfl rfl rfl (by decide) (by decide) ?_
  refine G_i2l rfl ?_
  obtain ⟨y1, hy1, h⟩ := Option.bind_eq_some_iff.mp h
  refine G_callsI 3 (t_Mod_in _ _ _ _ _  _ hy1) rfl rfl rfl rfl rfl rfl rfl rfl rfl ?_
  refine G_if_eq 52 rfl rfl (fun hc => ?_) (fun hc => ?_)
  · rw [if_pos hc] at h
    exact Go.weak' (t_Mod_isOnBox_52 d  _ _ _ _  _ h) ⟨rfl, rfl, rfl, rfl, trivial⟩
  · rw [if_neg hc] at h
    refine G_iload rfl rfl ?_
    refine G_i2l rfl ?_
    refine G_lconst (0 : Int64) rfl (by decide) ?_
    refine G_aload rfl rfl ?_
    refine G_getR (ci := 10) 51 rfl rfl rfl rfl rfl ?_
    refine G_iconst (1 : Int32) rfl (by decide) ?_
    refine G_ialdL 1 rfl rfl rfl (by decide) (by decide) ?_
    refine G_i2l rfl ?_
    obtain ⟨y3, hy3, h⟩ := Option.bind_eq_some_iff.mp h
    refine G_callsI 3 (t_Mod_in _ _ _ _ _  _ hy3) rfl rfl rfl rfl rfl rfl rfl rfl rfl ?_
    refine G_if_eq 52 rfl rfl (fun hc => ?_) (fun hc => ?_)
    · rw [if_pos hc] at h
      exact Go.weak' (t_Mod_isOnBox_52 d  _ _ _ _  _ h) ⟨rfl, rfl, rfl, rfl, trivial⟩
    · rw [if_neg hc] at h
      refine G_iload rfl rfl ?_
      refine G_i2l rfl ?_
      refine G_lconst (0 : Int64) rfl (by decide) ?_
      refine G_aload rfl rfl ?_
      refine G_getR (ci := 10) 51 rfl rfl rfl rfl rfl ?_
      refine G_iconst (2 : Int32) rfl (by decide) ?_
      refine G_ialdL 2 rfl rfl rfl (by decide) (by decide) ?_
      refine G_i2l rfl ?_
      obtain ⟨y4, hy4, h⟩ := Option.bind_eq_some_iff.mp h
      refine G_callsI 3 (t_Mod_in _ _ _ _ _  _ hy4) rfl rfl rfl rfl rfl rfl rfl rfl rfl ?_
      refine G_if_eq 52 rfl rfl (fun hc => ?_) (fun hc => ?_)
      · rw [if_pos hc] at h
        exact Go.weak' (t_Mod_isOnBox_52 d  _ _ _ _  _ h) ⟨rfl, rfl, rfl, rfl, trivial⟩
      · rw [if_neg hc] at h
        refine G_iconst (1 : Int32) rfl (by decide) ?_
        refine G_goto 53 rfl rfl ?_
        exact Go.weak' (t_Mod_isOnBox_53 d  _ _ _ _ _  _ h) ⟨rfl, rfl, rfl, rfl, trivial⟩
set_option maxRecDepth 100000 in
set_option maxHeartbeats 4000000 in
theorem t_Mod_isThere (d : Nat) (sg : Hp) (x1 : Int32)  (y : Int32 × Hp) (h : f_Mod_isThere sg x1 = some y) : Sm (d + 3) 110 [.ref 46, .int x1] sg (some (.int y.1)) y.2 := by
  unfold f_Mod_isThere at h
  refine Sm.of (lv := [(0, .ref 46), (1, .int x1)]) rfl ?_
  refine G_aload rfl rfl ?_
  refine G_aload rfl rfl ?_
  refine G_getR (ci := 10) 52 rfl rfl rfl rfl rfl ?_
  refine G_iconst (3 : Int32) rfl (by decide) ?_
  refine G_iload rfl rfl ?_
  refine G_imul rfl ?_
  obtain ⟨hg1, h⟩ := if_some h
  refine G_iald rfl rfl rfl hg1 ?_
  refine G_aload rfl rfl ?_
  refine G_getR (ci := 10) 52 rfl rfl rfl rfl rfl ?_
  refine G_iconst (3 : Int32) rfl (by decide) ?_
  refine G_iload rfl rfl ?_
  refine G_imul rfl ?_
  refine G_iconst (1 : Int32) rfl (by decide) ?_
  refine G_iadd rfl ?_
  obtain ⟨hg2, h⟩ := if_some h
  refine G_iald rfl rfl rfl hg2 ?_
  refine G_aload rfl rfl ?_
  refine G_getR (ci := 10) 52 rfl rfl rfl rfl rfl ?_
  refine G_iconst (3 : Int32) rfl (by decide) ?_
  refine G_iload rfl rfl ?_
  refine G_imul rfl ?_
  refine G_iconst (2 : Int32) rfl (by decide) ?_
  refine G_iadd rfl ?_
  obtain ⟨hg3, h⟩ := if_some h
  refine G_iald rfl rfl rfl hg3 ?_
  obtain ⟨y4, hy4, h⟩ := Option.bind_eq_some_iff.mp h
  refine G_callvI 4 (t_Mod_isOnBox _ _ _ _ _  _ hy4) rfl rfl rfl rfl rfl rfl rfl rfl rfl rfl rfl ?_
  obtain ⟨hz, h⟩ := if_some h
  cases h
  exact G_iret rfl (retZ_b rfl hz)
set_option maxRecDepth 100000 in
set_option maxHeartbeats 4000000 in
theorem t_Mod_puts (d : Nat) (sg : Hp) (x1 : Int32) (x2 : Int32) (x3 : Int32) (x4 : Int32)  (y : Hp) (h : f_Mod_puts sg x1 x2 x3 x4 = some y) : Sm (d + 0) 114 [.ref 46, .int x1, .int x2, .int x3, .int x4] sg none y := by
  unfold f_Mod_puts at h
  refine Sm.of (lv := [(0, .ref 46), (1, .int x1), (2, .int x2), (3, .int x3), (4, .int x4)]) rfl ?_
  refine G_aload rfl rfl ?_
  refine G_getR (ci := 10) 52 rfl rfl rfl rfl rfl ?_
  refine G_iconst (3 : Int32) rfl (by decide) ?_
  refine G_iload rfl rfl ?_
  refine G_imul rfl ?_
  refine G_iload rfl rfl ?_
  obtain ⟨hg1, h⟩ := if_some h
  refine G_iast rfl rfl rfl hg1 ?_
  refine G_aload rfl rfl ?_
  refine G_getR (ci := 10) 52 rfl rfl rfl rfl rfl ?_
  refine G_iconst (3 : Int32) rfl (by decide) ?_
  refine G_iload rfl rfl ?_
  refine G_imul rfl ?_
  refine G_iconst (1 : Int32) rfl (by decide) ?_
  refine G_iadd rfl ?_
  refine G_iload rfl rfl ?_
  obtain ⟨hg2, h⟩ := if_some h
  refine G_iast rfl rfl rfl hg2 ?_
  refine G_aload rfl rfl ?_
  refine G_getR (ci := 10) 52 rfl rfl rfl rfl rfl ?_
  refine G_iconst (3 : Int32) rfl (by decide) ?_
  refine G_iload rfl rfl ?_
  refine G_imul rfl ?_
  refine G_iconst (2 : Int32) rfl (by decide) ?_
  refine G_iadd rfl ?_
  refine G_iload rfl rfl ?_
  obtain ⟨hg3, h⟩ := if_some h
  refine G_iast rfl rfl rfl hg3 ?_
  cases h
  exact G_vret rfl rfl
set_option maxRecDepth 100000 in
set_option maxHeartbeats 4000000 in
theorem t_Mod_side_69 (d : Nat) {k44 : Hp → Int32 → Int32 → Option (Int32 × Hp)} (hk44 : ∀ (sg : Hp) (x3 : Int32) (x4 : Int32)  (y : Int32 × Hp), k44 sg x3 x4 = some y → Go (d + 4) none 109 44 [(0, .ref 46), (3, .int x3), (4, .int x4)] [] sg (some (.int y.1)) y.2) (sg : Hp) (x3 : Int32) (x4 : Int32)  (y : Int32 × Hp) (h : f_Mod_side_69 k44 sg x3 x4 = some y) : Go (d + 4) none 109 69 [(0, .ref 46), (3, .int x3), (4, .int x4)] [] sg (some (.int y.1)) y.2 := by
  unfold f_Mod_side_69 at h
  refine G_iinc (1 : Int32) rfl (by decide) rfl rfl ?_
  refine G_goto 44 rfl rfl ?_
  exact Go.weak' (hk44 _ _ _  _ h) ⟨rfl, rfl, rfl, trivial⟩
set_option maxRecDepth 100000 in
set_option maxHeartbeats 4000000 in
theorem t_Mod_side_44 (d : Nat)   : ∀ (n : Nat) (sg : Hp) (x3 : Int32) (x4 : Int32)  (y : Int32 × Hp), f_Mod_side_44  n sg x3 x4 = some y → Go (d + 4) none 109 44 [(0, .ref 46), (3, .int x3), (4, .int x4)] [] sg (some (.int y.1)) y.2 := by
  intro n
  induction n with
  | zero =>
    intro sg x3 x4 y h
    rw [f_Mod_side_44] at h
    cases h
  | succ n ih =>
    intro sg x3 x4 y h
    rw [f_Mod_side_44] at h
    refine G_iload rfl rfl ?_
    refine G_iconst (8 : Int32) rfl (by decide) ?_
    refine G_ic_ge 75 rfl rfl (fun hc => ?_) (fun hc => ?_)
    · rw [if_pos hc] at h
      refine G_iload rfl rfl ?_
      cases h
      exact G_iret rfl rfl
    · rw [if_neg hc] at h
      refine G_aload rfl rfl ?_
      refine G_iload rfl rfl ?_
      obtain ⟨y5, hy5, h⟩ := Option.bind_eq_some_iff.mp h
      refine G_callvI 2 (t_Mod_isThere _ _ _  _ hy5) rfl rfl rfl rfl rfl rfl rfl rfl rfl rfl rfl ?_
      refine G_if_ne 69 rfl rfl (fun hc => ?_) (fun hc => ?_)
      · rw [if_neg hc] at h
        exact Go.weak' (t_Mod_side_69 d ih _ _ _  _ h) ⟨rfl, rfl, rfl, trivial⟩
      · rw [if_pos hc] at h
        refine G_aload rfl rfl ?_
        refine G_iload rfl rfl ?_
        refine G_iconst (0 : Int32) rfl (by decide) ?_
        refine G_iconst (0 : Int32) rfl (by decide) ?_
        refine G_iconst (0 : Int32) rfl (by decide) ?_
        obtain ⟨y6, hy6, h⟩ := Option.bind_eq_some_iff.mp h
        refine G_callvV 5 (t_Mod_puts _ _ _ _ _ _  _ hy6) rfl rfl rfl rfl rfl rfl rfl rfl rfl rfl rfl ?_
        exact Go.weak' (t_Mod_side_69 d ih _ _ _  _ h) ⟨rfl, rfl, rfl, trivial⟩
set_option maxRecDepth 100000 in
set_option maxHeartbeats 4000000 in
theorem t_Mod_side (d : Nat) (sg : Hp) (x1 : Int32) (x2 : Int32)  (y : Int32 × Hp) (h : f_Mod_side sg x1 x2 = some y) : Sm (d + 4) 109 [.ref 46, .int x1, .int x2] sg (some (.int y.1)) y.2 := by
  unfold f_Mod_side at h
  refine Sm.of (lv := [(0, .ref 46), (1, .int x1), (2, .int x2)]) rfl ?_
  refine G_iload rfl rfl ?_
  refine G_i2l rfl ?_
  refine G_lconst (0 : Int64) rfl (by decide) ?_
  refine G_ldc2 (2 : Int64) rfl (by decide) ?_
  obtain ⟨y1, hy1, h⟩ := Option.bind_eq_some_iff.mp h
  refine G_callsI 3 (t_Mod_in _ _ _ _ _  _ hy1) rfl rfl rfl rfl rfl rfl rfl rfl rfl ?_
  refine G_if_eq 24 rfl rfl (fun hc => ?_) (fun hc => ?_)
  · rw [if_pos hc] at h
    refine G_iconst (-2 : Int32) rfl (by decide) ?_
    cases h
    exact G_iret rfl rfl
  · rw [if_neg hc] at h
    refine G_iload rfl rfl ?_
    refine G_i2l rfl ?_
    refine G_lconst (1 : Int64) rfl (by decide) ?_
    refine G_ldc2 (30 : Int64) rfl (by decide) ?_
    obtain ⟨y2, hy2, h⟩ := Option.bind_eq_some_iff.mp h
    refine G_callsI 3 (t_Mod_in _ _ _ _ _  _ hy2) rfl rfl rfl rfl rfl rfl rfl rfl rfl ?_
    refine G_if_ne 27 rfl rfl (fun hc => ?_) (fun hc => ?_)
    · rw [if_neg hc] at h
      refine G_aload rfl rfl ?_
      refine G_getR (ci := 10) 51 rfl rfl rfl rfl rfl ?_
      refine G_iload rfl rfl ?_
      obtain ⟨hg3, h⟩ := if_some h
      refine G_iald rfl rfl rfl hg3 ?_
      refine G_istore rfl rfl ?_
      refine G_aload rfl rfl ?_
      refine G_getR (ci := 10) 51 rfl rfl rfl rfl rfl ?_
      refine G_iload rfl rfl ?_
      refine G_iload rfl rfl ?_
      obtain ⟨hg4, h⟩ := if_some h
      refine G_iast rfl rfl rfl hg4 ?_
      refine G_iconst (0 : Int32) rfl (by decide) ?_
      refine G_istore rfl rfl ?_
      exact Go.weak' (t_Mod_side_44 d  _ _ _ _  _ h) ⟨rfl, rfl, rfl, trivial⟩
    · rw [if_pos hc] at h
      refine G_iconst (-2 : Int32) rfl (by decide) ?_
      cases h
      exact G_iret rfl rfl
set_option maxRecDepth 100000 in
set_option maxHeartbeats 4000000 in
theorem t_Box_isPlace (d : Nat) (sg : Hp) (x0 : Int32)  (y : Int32 × Hp) (h : f_Box_isPlace sg x0 = some y) : Sm (d + 0) 18 [.int x0] sg (some (.int y.1)) y.2 := by
  unfold f_Box_isPlace at h
  refine Sm.of (lv := [(0, .int x0)]) rfl ?_
  refine G_iload rfl rfl ?_
  refine G_if_lt 14 rfl rfl (fun hc => ?_) (fun hc => ?_)
  · rw [if_pos hc] at h
    refine G_iconst (0 : Int32) rfl (by decide) ?_
    cases h
    exact G_iret rfl rfl
  · rw [if_neg hc] at h
    refine G_iload rfl rfl ?_
    refine G_iconst (8 : Int32) rfl (by decide) ?_
    refine G_ic_ge 14 rfl rfl (fun hc => ?_) (fun hc => ?_)
    · rw [if_pos hc] at h
      refine G_iconst (0 : Int32) rfl (by decide) ?_
      cases h
      exact G_iret rfl rfl
    · rw [if_neg hc] at h
      refine G_iconst (1 : Int32) rfl (by decide) ?_
      refine G_goto 15 rfl rfl ?_
      cases h
      exact G_iret rfl rfl
set_option maxRecDepth 100000 in
set_option maxHeartbeats 4000000 in
theorem t_Box_place (d : Nat) (sg : Hp) (x1 : Int32) (x2 : Int32) (x3 : Int32) (x4 : Int32)  (y : Int32 × Hp) (h : f_Box_place sg x1 x2 x3 x4 = some y) : Sm (d + 2) 17 [.ref 0, .int x1, .int x2, .int x3, .int x4] sg (some (.int y.1)) y.2 := by
  unfold f_Box_place at h
  refine Sm.of (lv := [(0, .ref 0), (1, .int x1), (2, .int x2), (3, .int x3), (4, .int x4)]) rfl ?_
  refine G_iload rfl rfl ?_
  obtain ⟨y1, hy1, h⟩ := Option.bind_eq_some_iff.mp h
  refine G_callsI 1 (t_Box_isPlace _ _ _  _ hy1) rfl rfl rfl rfl rfl rfl rfl rfl rfl ?_
  refine G_if_eq 21 rfl rfl (fun hc => ?_) (fun hc => ?_)
  · rw [if_pos hc] at h
    refine G_iconst (-2 : Int32) rfl (by decide) ?_
    cases h
    exact G_iret rfl rfl
  · rw [if_neg hc] at h
    refine G_aload rfl rfl ?_
    refine G_getR (ci := 9) 1 rfl rfl rfl rfl rfl ?_
    refine G_iload rfl rfl ?_
    refine G_iload rfl rfl ?_
    refine G_iload rfl rfl ?_
    obtain ⟨y2, hy2, h⟩ := Option.bind_eq_some_iff.mp h
    refine G_callvI 4 (t_Room_holds _ _ _ _ _  _ hy2) rfl rfl rfl rfl rfl rfl rfl rfl rfl rfl rfl ?_
    refine G_if_ne 24 rfl rfl (fun hc => ?_) (fun hc => ?_)
    · rw [if_neg hc] at h
      refine G_aload rfl rfl ?_
      refine G_getR (ci := 9) 1 rfl rfl rfl rfl rfl ?_
      refine G_iload rfl rfl ?_
      refine G_iload rfl rfl ?_
      refine G_iload rfl rfl ?_
      refine G_iload rfl rfl ?_
      obtain ⟨y3, hy3, h⟩ := Option.bind_eq_some_iff.mp h
      refine G_callvV 5 (t_Room_move _ _ _ _ _ _  _ hy3) rfl rfl rfl rfl rfl rfl rfl rfl rfl rfl rfl ?_
      refine G_iconst (1 : Int32) rfl (by decide) ?_
      cases h
      exact G_iret rfl rfl
    · rw [if_pos hc] at h
      refine G_iconst (-2 : Int32) rfl (by decide) ?_
      cases h
      exact G_iret rfl rfl
set_option maxRecDepth 100000 in
set_option maxHeartbeats 4000000 in
theorem t_Mod_isPlace (d : Nat) (sg : Hp) (x0 : Int32)  (y : Int32 × Hp) (h : f_Mod_isPlace sg x0 = some y) : Sm (d + 1) 116 [.int x0] sg (some (.int y.1)) y.2 := by
  unfold f_Mod_isPlace at h
  refine Sm.of (lv := [(0, .int x0)]) rfl ?_
  refine G_iload rfl rfl ?_
  refine G_i2l rfl ?_
  refine G_lconst (0 : Int64) rfl (by decide) ?_
  refine G_ldc2 (7 : Int64) rfl (by decide) ?_
  obtain ⟨y1, hy1, h⟩ := Option.bind_eq_some_iff.mp h
  refine G_callsI 3 (t_Mod_in _ _ _ _ _  _ hy1) rfl rfl rfl rfl rfl rfl rfl rfl rfl ?_
  obtain ⟨hz, h⟩ := if_some h
  cases h
  exact G_iret rfl (retZ_b rfl hz)
set_option maxRecDepth 100000 in
set_option maxHeartbeats 4000000 in
theorem t_Mod_place (d : Nat) (sg : Hp) (x1 : Int32) (x2 : Int32) (x3 : Int32) (x4 : Int32)  (y : Int32 × Hp) (h : f_Mod_place sg x1 x2 x3 x4 = some y) : Sm (d + 3) 115 [.ref 46, .int x1, .int x2, .int x3, .int x4] sg (some (.int y.1)) y.2 := by
  unfold f_Mod_place at h
  refine Sm.of (lv := [(0, .ref 46), (1, .int x1), (2, .int x2), (3, .int x3), (4, .int x4)]) rfl ?_
  refine G_iload rfl rfl ?_
  obtain ⟨y1, hy1, h⟩ := Option.bind_eq_some_iff.mp h
  refine G_callsI 1 (t_Mod_isPlace _ _ _  _ hy1) rfl rfl rfl rfl rfl rfl rfl rfl rfl ?_
  refine G_if_eq 18 rfl rfl (fun hc => ?_) (fun hc => ?_)
  · rw [if_pos hc] at h
    refine G_iconst (-2 : Int32) rfl (by decide) ?_
    cases h
    exact G_iret rfl rfl
  · rw [if_neg hc] at h
    refine G_aload rfl rfl ?_
    refine G_iload rfl rfl ?_
    refine G_iload rfl rfl ?_
    refine G_iload rfl rfl ?_
    obtain ⟨y2, hy2, h⟩ := Option.bind_eq_some_iff.mp h
    refine G_callvI 4 (t_Mod_isOnBox _ _ _ _ _  _ hy2) rfl rfl rfl rfl rfl rfl rfl rfl rfl rfl rfl ?_
    refine G_if_ne 21 rfl rfl (fun hc => ?_) (fun hc => ?_)
    · rw [if_neg hc] at h
      refine G_aload rfl rfl ?_
      refine G_iload rfl rfl ?_
      refine G_iload rfl rfl ?_
      refine G_iload rfl rfl ?_
      refine G_iload rfl rfl ?_
      obtain ⟨y3, hy3, h⟩ := Option.bind_eq_some_iff.mp h
      refine G_callvV 5 (t_Mod_puts _ _ _ _ _ _  _ hy3) rfl rfl rfl rfl rfl rfl rfl rfl rfl rfl rfl ?_
      refine G_iconst (1 : Int32) rfl (by decide) ?_
      cases h
      exact G_iret rfl rfl
    · rw [if_pos hc] at h
      refine G_iconst (-2 : Int32) rfl (by decide) ?_
      cases h
      exact G_iret rfl rfl
set_option maxRecDepth 100000 in
set_option maxHeartbeats 4000000 in
theorem t_Room_spotOf (d : Nat) (sg : Hp) (x1 : Int32) (a2 : Nat) (h2 : clsOf a2 = 5) (y : Hp) (h : f_Room_spotOf sg x1 a2 = some y) : Sm (d + 1) 20 [.ref 1, .int x1, .ref a2] sg none y := by
  unfold f_Room_spotOf at h
  refine Sm.of (lv := [(0, .ref 1), (1, .int x1), (2, .ref a2)]) rfl ?_
  refine G_aload rfl rfl ?_
  refine G_aload rfl rfl ?_
  refine G_getR (ci := 2) 2 rfl rfl rfl rfl rfl ?_
  refine G_aload rfl rfl ?_
  refine G_getR (ci := 2) 3 rfl rfl rfl rfl rfl ?_
  refine G_iload rfl rfl ?_
  obtain ⟨hg1, h⟩ := if_some h
  refine G_iald rfl rfl rfl hg1 ?_
  refine G_aload rfl rfl ?_
  refine G_getR (ci := 2) 4 rfl rfl rfl rfl rfl ?_
  refine G_iload rfl rfl ?_
  obtain ⟨hg2, h⟩ := if_some h
  refine G_iald rfl rfl rfl hg2 ?_
  refine G_aload rfl rfl ?_
  refine G_getR (ci := 2) 5 rfl rfl rfl rfl rfl ?_
  refine G_iload rfl rfl ?_
  obtain ⟨hg3, h⟩ := if_some h
  refine G_iald rfl rfl rfl hg3 ?_
  obtain ⟨y4, hy4, h⟩ := Option.bind_eq_some_iff.mp h
  refine G_callvV 5 (t_Spot_set _ _ _ _ _ _ _ h2 rfl rfl _ hy4) rfl rfl rfl rfl rfl rfl rfl rfl rfl h2 rfl ?_
  cases h
  exact G_vret rfl rfl
set_option maxRecDepth 100000 in
set_option maxHeartbeats 4000000 in
theorem t_Spot_wallBits_25 (d : Nat) {k4 : Hp → Nat → Int32 → Int32 → Option (Int32 × Hp)} (hk4 : ∀ (sg : Hp) (a0 : Nat) (x1 : Int32) (x2 : Int32) (h0 : clsOf a0 = 5) (y : Int32 × Hp), k4 sg a0 x1 x2 = some y → Go (d + 0) none 21 4 [(0, .ref a0), (1, .int x1), (2, .int x2)] [] sg (some (.int y.1)) y.2) (sg : Hp) (a0 : Nat) (x1 : Int32) (x2 : Int32) (h0 : clsOf a0 = 5) (y : Int32 × Hp) (h : f_Spot_wallBits_25 k4 sg a0 x1 x2 = some y) : Go (d + 0) none 21 25 [(0, .ref a0), (1, .int x1), (2, .int x2)] [] sg (some (.int y.1)) y.2 := by
  unfold f_Spot_wallBits_25 at h
  refine G_iinc (1 : Int32) rfl (by decide) rfl rfl ?_
  refine G_goto 4 rfl rfl ?_
  exact Go.weak' (hk4 _ _ _ _ h0 _ h) ⟨rfl, rfl, rfl, trivial⟩
set_option maxRecDepth 100000 in
set_option maxHeartbeats 4000000 in
theorem t_Spot_wallBits_4 (d : Nat)   : ∀ (n : Nat) (sg : Hp) (a0 : Nat) (x1 : Int32) (x2 : Int32) (h0 : clsOf a0 = 5) (y : Int32 × Hp), f_Spot_wallBits_4  n sg a0 x1 x2 = some y → Go (d + 0) none 21 4 [(0, .ref a0), (1, .int x1), (2, .int x2)] [] sg (some (.int y.1)) y.2 := by
  intro n
  induction n with
  | zero =>
    intro sg a0 x1 x2 h0 y h
    rw [f_Spot_wallBits_4] at h
    cases h
  | succ n ih =>
    intro sg a0 x1 x2 h0 y h
    rw [f_Spot_wallBits_4] at h
    refine G_iload rfl rfl ?_
    refine G_iconst (6 : Int32) rfl (by decide) ?_
    refine G_ic_ge 31 rfl rfl (fun hc => ?_) (fun hc => ?_)
    · rw [if_pos hc] at h
      refine G_iload rfl rfl ?_
      cases h
      exact G_iret rfl rfl
    · rw [if_neg hc] at h
      refine G_aload rfl rfl ?_
      refine G_getR (ci := 5) (rt a0 0) rfl h0 rfl rfl rfl ?_
      refine G_iload rfl rfl ?_
      obtain ⟨hg1, h⟩ := if_some h
      refine G_iald rfl (rt_cls h0 0 rfl).1 (rt_cls h0 0 rfl).2 hg1 ?_
      refine G_if_ne 25 rfl rfl (fun hc => ?_) (fun hc => ?_)
      · rw [if_neg hc] at h
        exact Go.weak' (t_Spot_wallBits_25 d ih _ _ _ _ h0 _ h) ⟨rfl, rfl, rfl, trivial⟩
      · rw [if_pos hc] at h
        refine G_iload rfl rfl ?_
        refine G_iconst (1 : Int32) rfl (by decide) ?_
        refine G_iload rfl rfl ?_
        refine G_ishl rfl ?_
        refine G_ior rfl ?_
        refine G_istore rfl rfl ?_
        exact Go.weak' (t_Spot_wallBits_25 d ih _ _ _ _ h0 _ h) ⟨rfl, rfl, rfl, trivial⟩
set_option maxRecDepth 100000 in
set_option maxHeartbeats 4000000 in
theorem t_Spot_wallBits (d : Nat) (sg : Hp) (a0 : Nat) (h0 : clsOf a0 = 5) (y : Int32 × Hp) (h : f_Spot_wallBits sg a0 = some y) : Sm (d + 0) 21 [.ref a0] sg (some (.int y.1)) y.2 := by
  unfold f_Spot_wallBits at h
  refine Sm.of (lv := [(0, .ref a0)]) rfl ?_
  refine G_iconst (0 : Int32) rfl (by decide) ?_
  refine G_istore rfl rfl ?_
  refine G_iconst (0 : Int32) rfl (by decide) ?_
  refine G_istore rfl rfl ?_
  exact Go.weak' (t_Spot_wallBits_4 d  _ _ _ _ _ h0 _ h) ⟨rfl, rfl, rfl, trivial⟩
set_option maxRecDepth 100000 in
set_option maxHeartbeats 4000000 in
theorem t_Box_at (d : Nat) (sg : Hp) (x1 : Int32) (x2 : Int32)  (y : Int32 × Hp) (h : f_Box_at sg x1 x2 = some y) : Sm (d + 2) 19 [.ref 0, .int x1, .int x2] sg (some (.int y.1)) y.2 := by
  unfold f_Box_at at h
  refine Sm.of (lv := [(0, .ref 0), (1, .int x1), (2, .int x2)]) rfl ?_
  refine G_iload rfl rfl ?_
  obtain ⟨y1, hy1, h⟩ := Option.bind_eq_some_iff.mp h
  refine G_callsI 1 (t_Box_isPlace _ _ _  _ hy1) rfl rfl rfl rfl rfl rfl rfl rfl rfl ?_
  refine G_if_eq 16 rfl rfl (fun hc => ?_) (fun hc => ?_)
  · rw [if_pos hc] at h
    refine G_iconst (-2 : Int32) rfl (by decide) ?_
    cases h
    exact G_iret rfl rfl
  · rw [if_neg hc] at h
    refine G_iload rfl rfl ?_
    refine G_if_lt 16 rfl rfl (fun hc => ?_) (fun hc => ?_)
    · rw [if_pos hc] at h
      refine G_iconst (-2 : Int32) rfl (by decide) ?_
      cases h
      exact G_iret rfl rfl
    · rw [if_neg hc] at h
      refine G_iload rfl rfl ?_
      refine G_iconst (3 : Int32) rfl (by decide) ?_
      refine G_ic_le 19 rfl rfl (fun hc => ?_) (fun hc => ?_)
      · rw [if_pos hc] at h
        refine G_iload rfl rfl ?_
        by_cases hc2_0 : x2 = (0 : Int32)
        · rw [if_pos hc2_0] at h
          refine G_tsw (t := 48) 48 rfl (by rw [hc2_0]; decide) (by rw [hc2_0]; rfl) rfl ?_
          refine G_aload rfl rfl ?_
          refine G_getR (ci := 9) 1 rfl rfl rfl rfl rfl ?_
          refine G_getR (ci := 2) 3 rfl rfl rfl rfl rfl ?_
          refine G_iload rfl rfl ?_
          obtain ⟨hg3, h⟩ := if_some h
          refine G_iald rfl rfl rfl hg3 ?_
          cases h
          exact G_iret rfl rfl
        · rw [if_neg hc2_0] at h
          by_cases hc2_1 : x2 = (1 : Int32)
          · rw [if_pos hc2_1] at h
            refine G_tsw (t := 58) 58 rfl (by rw [hc2_1]; decide) (by rw [hc2_1]; rfl) rfl ?_
            refine G_aload rfl rfl ?_
            refine G_getR (ci := 9) 1 rfl rfl rfl rfl rfl ?_
            refine G_getR (ci := 2) 4 rfl rfl rfl rfl rfl ?_
            refine G_iload rfl rfl ?_
            obtain ⟨hg4, h⟩ := if_some h
            refine G_iald rfl rfl rfl hg4 ?_
            cases h
            exact G_iret rfl rfl
          · rw [if_neg hc2_1] at h
            by_cases hc2_2 : x2 = (2 : Int32)
            · rw [if_pos hc2_2] at h
              refine G_tsw (t := 68) 68 rfl (by rw [hc2_2]; decide) (by rw [hc2_2]; rfl) rfl ?_
              refine G_aload rfl rfl ?_
              refine G_getR (ci := 9) 1 rfl rfl rfl rfl rfl ?_
              refine G_getR (ci := 2) 5 rfl rfl rfl rfl rfl ?_
              refine G_iload rfl rfl ?_
              obtain ⟨hg5, h⟩ := if_some h
              refine G_iald rfl rfl rfl hg5 ?_
              cases h
              exact G_iret rfl rfl
            · rw [if_neg hc2_2] at h
              have q2_0 := ti_ne hc2_0 (n := 0) rfl
              have q2_1 := ti_ne hc2_1 (n := 1) rfl
              have q2_2 := ti_ne hc2_2 (n := 2) rfl
              refine G_tswD 78 rfl (by omega) rfl ?_
              refine G_aload rfl rfl ?_
              refine G_getR (ci := 9) 1 rfl rfl rfl rfl rfl ?_
              refine G_iload rfl rfl ?_
              refine G_aload rfl rfl ?_
              refine G_getR (ci := 9) 35 rfl rfl rfl rfl rfl ?_
              obtain ⟨y6, hy6, h⟩ := Option.bind_eq_some_iff.mp h
              refine G_callvV 3 (t_Room_spotOf _ _ _ _ rfl _ hy6) rfl rfl rfl rfl rfl rfl rfl rfl rfl rfl rfl ?_
              refine G_aload rfl rfl ?_
              refine G_getR (ci := 9) 35 rfl rfl rfl rfl rfl ?_
              obtain ⟨y7, hy7, h⟩ := Option.bind_eq_some_iff.mp h
              refine G_callvI 1 (t_Spot_wallBits _ _ _ rfl _ hy7) rfl rfl rfl rfl rfl rfl rfl rfl rfl rfl rfl ?_
              cases h
              exact G_iret rfl rfl
      · rw [if_neg hc] at h
        refine G_iconst (-2 : Int32) rfl (by decide) ?_
        cases h
        exact G_iret rfl rfl
set_option maxRecDepth 100000 in
set_option maxHeartbeats 4000000 in
theorem t_Mod_isOn (d : Nat) (sg : Hp) (x1 : Int32) (x2 : Int32)  (y : Int32 × Hp) (h : f_Mod_isOn sg x1 x2 = some y) : Sm (d + 2) 120 [.ref 46, .int x1, .int x2] sg (some (.int y.1)) y.2 := by
  unfold f_Mod_isOn at h
  refine Sm.of (lv := [(0, .ref 46), (1, .int x1), (2, .int x2)]) rfl ?_
  refine G_aload rfl rfl ?_
  refine G_iload rfl rfl ?_
  refine G_aload rfl rfl ?_
  refine G_getR (ci := 10) 52 rfl rfl rfl rfl rfl ?_
  refine G_iconst (3 : Int32) rfl (by decide) ?_
  refine G_iload rfl rfl ?_
  refine G_imul rfl ?_
  obtain ⟨hg1, h⟩ := if_some h
  refine G_iald rfl rfl rfl hg1 ?_
  refine G_aload rfl rfl ?_
  refine G_getR (ci := 10) 52 rfl rfl rfl rfl rfl ?_
  refine G_iconst (3 : Int32) rfl (by decide) ?_
  refine G_iload rfl rfl ?_
  refine G_imul rfl ?_
  refine G_iconst (1 : Int32) rfl (by decide) ?_
  refine G_iadd rfl ?_
  obtain ⟨hg2, h⟩ := if_some h
  refine G_iald rfl rfl rfl hg2 ?_
  refine G_aload rfl rfl ?_
  refine G_getR (ci := 10) 52 rfl rfl rfl rfl rfl ?_
  refine G_iconst (3 : Int32) rfl (by decide) ?_
  refine G_iload rfl rfl ?_
  refine G_imul rfl ?_
  refine G_iconst (2 : Int32) rfl (by decide) ?_
  refine G_iadd rfl ?_
  obtain ⟨hg3, h⟩ := if_some h
  refine G_iald rfl rfl rfl hg3 ?_
  obtain ⟨y4, hy4, h⟩ := Option.bind_eq_some_iff.mp h
  refine G_callvI 5 (t_Mod_liesOn _ _ _ _ _ _  _ hy4) rfl rfl rfl rfl rfl rfl rfl rfl rfl rfl rfl ?_
  obtain ⟨hz, h⟩ := if_some h
  cases h
  exact G_iret rfl (retZ_b rfl hz)
set_option maxRecDepth 100000 in
set_option maxHeartbeats 4000000 in
theorem t_Mod_facesOf_27 (d : Nat) {k4 : Hp → Int32 → Int32 → Int32 → Option (Int32 × Hp)} (hk4 : ∀ (sg : Hp) (x1 : Int32) (x2 : Int32) (x3 : Int32)  (y : Int32 × Hp), k4 sg x1 x2 x3 = some y → Go (d + 3) none 119 4 [(0, .ref 46), (1, .int x1), (2, .int x2), (3, .int x3)] [] sg (some (.int y.1)) y.2) (sg : Hp) (x1 : Int32) (x3 : Int32) (xs0 : Int32) (xs1 : Int32)  (y : Int32 × Hp) (h : f_Mod_facesOf_27 k4 sg x1 x3 xs0 xs1 = some y) : Go (d + 3) none 119 27 [(0, .ref 46), (1, .int x1), (3, .int x3)] [.int xs0, .int xs1] sg (some (.int y.1)) y.2 := by
  unfold f_Mod_facesOf_27 at h
  refine G_ior rfl ?_
  refine G_istore rfl rfl ?_
  refine G_iinc (1 : Int32) rfl (by decide) rfl rfl ?_
  refine G_goto 4 rfl rfl ?_
  exact Go.weak' (hk4 _ _ _ _  _ h) ⟨rfl, rfl, rfl, rfl, trivial⟩
set_option maxRecDepth 100000 in
set_option maxHeartbeats 4000000 in
theorem t_Mod_facesOf_4 (d : Nat)   : ∀ (n : Nat) (sg : Hp) (x1 : Int32) (x2 : Int32) (x3 : Int32)  (y : Int32 × Hp), f_Mod_facesOf_4  n sg x1 x2 x3 = some y → Go (d + 3) none 119 4 [(0, .ref 46), (1, .int x1), (2, .int x2), (3, .int x3)] [] sg (some (.int y.1)) y.2 := by
  intro n
  induction n with
  | zero =>
    intro sg x1 x2 x3 y h
    rw [f_Mod_facesOf_4] at h
    cases h
  | succ n ih =>
    intro sg x1 x2 x3 y h
    rw [f_Mod_facesOf_4] at h
    refine G_iload rfl rfl ?_
    refine G_iconst (6 : Int32) rfl (by decide) ?_
    refine G_ic_ge 35 rfl rfl (fun hc => ?_) (fun hc => ?_)
    · rw [if_pos hc] at h
      refine G_iload rfl rfl ?_
      cases h
      exact G_iret rfl rfl
    · rw [if_neg hc] at h
      refine G_iload rfl rfl ?_
      refine G_aload rfl rfl ?_
      refine G_iload rfl rfl ?_
      refine G_iload rfl rfl ?_
      obtain ⟨y1, hy1, h⟩ := Option.bind_eq_some_iff.mp h
      refine G_callvI 3 (t_Mod_isOn _ _ _ _  _ hy1) rfl rfl rfl rfl rfl rfl rfl rfl rfl rfl rfl ?_
      refine G_if_eq 26 rfl rfl (fun hc => ?_) (fun hc => ?_)
      · rw [if_pos hc] at h
        refine G_iconst (0 : Int32) rfl (by decide) ?_
        exact Go.weak' (t_Mod_facesOf_27 d ih _ _ _ _ _  _ h) ⟨rfl, rfl, rfl, trivial⟩
      · rw [if_neg hc] at h
        refine G_iconst (1 : Int32) rfl (by decide) ?_
        refine G_iload rfl rfl ?_
        refine G_ishl rfl ?_
        refine G_goto 27 rfl rfl ?_
        exact Go.weak' (t_Mod_facesOf_27 d ih _ _ _ _ _  _ h) ⟨rfl, rfl, rfl, trivial⟩
set_option maxRecDepth 100000 in
set_option maxHeartbeats 4000000 in
theorem t_Mod_facesOf (d : Nat) (sg : Hp) (x1 : Int32)  (y : Int32 × Hp) (h : f_Mod_facesOf sg x1 = some y) : Sm (d + 3) 119 [.ref 46, .int x1] sg (some (.int y.1)) y.2 := by
  unfold f_Mod_facesOf at h
  refine Sm.of (lv := [(0, .ref 46), (1, .int x1)]) rfl ?_
  refine G_iconst (0 : Int32) rfl (by decide) ?_
  refine G_istore rfl rfl ?_
  refine G_iconst (0 : Int32) rfl (by decide) ?_
  refine G_istore rfl rfl ?_
  exact Go.weak' (t_Mod_facesOf_4 d  _ _ _ _ _  _ h) ⟨rfl, rfl, rfl, rfl, trivial⟩
set_option maxRecDepth 100000 in
set_option maxHeartbeats 4000000 in
theorem t_Mod_atOf (d : Nat) (sg : Hp) (x1 : Int32) (x2 : Int32)  (y : Int32 × Hp) (h : f_Mod_atOf sg x1 x2 = some y) : Sm (d + 4) 118 [.ref 46, .int x1, .int x2] sg (some (.int y.1)) y.2 := by
  unfold f_Mod_atOf at h
  refine Sm.of (lv := [(0, .ref 46), (1, .int x1), (2, .int x2)]) rfl ?_
  refine G_iload rfl rfl ?_
  refine G_iconst (3 : Int32) rfl (by decide) ?_
  refine G_ic_ge 18 rfl rfl (fun hc => ?_) (fun hc => ?_)
  · rw [if_pos hc] at h
    refine G_aload rfl rfl ?_
    refine G_iload rfl rfl ?_
    obtain ⟨y1, hy1, h⟩ := Option.bind_eq_some_iff.mp h
    refine G_callvI 2 (t_Mod_facesOf _ _ _  _ hy1) rfl rfl rfl rfl rfl rfl rfl rfl rfl rfl rfl ?_
    cases h
    exact G_iret rfl rfl
  · rw [if_neg hc] at h
    refine G_aload rfl rfl ?_
    refine G_getR (ci := 10) 52 rfl rfl rfl rfl rfl ?_
    refine G_iconst (3 : Int32) rfl (by decide) ?_
    refine G_iload rfl rfl ?_
    refine G_imul rfl ?_
    refine G_iload rfl rfl ?_
    refine G_iadd rfl ?_
    obtain ⟨hg2, h⟩ := if_some h
    refine G_iald rfl rfl rfl hg2 ?_
    refine G_goto 23 rfl rfl ?_
    cases h
    exact G_iret rfl rfl
set_option maxRecDepth 100000 in
set_option maxHeartbeats 4000000 in
theorem t_Mod_at (d : Nat) (sg : Hp) (x1 : Int32) (x2 : Int32)  (y : Int32 × Hp) (h : f_Mod_at sg x1 x2 = some y) : Sm (d + 5) 117 [.ref 46, .int x1, .int x2] sg (some (.int y.1)) y.2 := by
  unfold f_Mod_at at h
  refine Sm.of (lv := [(0, .ref 46), (1, .int x1), (2, .int x2)]) rfl ?_
  refine G_iload rfl rfl ?_
  obtain ⟨y1, hy1, h⟩ := Option.bind_eq_some_iff.mp h
  refine G_callsI 1 (t_Mod_isPlace _ _ _  _ hy1) rfl rfl rfl rfl rfl rfl rfl rfl rfl ?_
  refine G_if_eq 28 rfl rfl (fun hc => ?_) (fun hc => ?_)
  · rw [if_pos hc] at h
    refine G_iconst (-2 : Int32) rfl (by decide) ?_
    cases h
    exact G_iret rfl rfl
  · rw [if_neg hc] at h
    refine G_iload rfl rfl ?_
    refine G_i2l rfl ?_
    refine G_lconst (0 : Int64) rfl (by decide) ?_
    refine G_ldc2 (3 : Int64) rfl (by decide) ?_
    obtain ⟨y2, hy2, h⟩ := Option.bind_eq_some_iff.mp h
    refine G_callsI 3 (t_Mod_in _ _ _ _ _  _ hy2) rfl rfl rfl rfl rfl rfl rfl rfl rfl ?_
    refine G_if_eq 28 rfl rfl (fun hc => ?_) (fun hc => ?_)
    · rw [if_pos hc] at h
      refine G_iconst (-2 : Int32) rfl (by decide) ?_
      cases h
      exact G_iret rfl rfl
    · rw [if_neg hc] at h
      refine G_aload rfl rfl ?_
      refine G_iload rfl rfl ?_
      refine G_iload rfl rfl ?_
      obtain ⟨y3, hy3, h⟩ := Option.bind_eq_some_iff.mp h
      refine G_callvI 3 (t_Mod_atOf _ _ _ _  _ hy3) rfl rfl rfl rfl rfl rfl rfl rfl rfl rfl rfl ?_
      refine G_goto 30 rfl rfl ?_
      cases h
      exact G_iret rfl rfl
set_option maxRecDepth 100000 in
set_option maxHeartbeats 4000000 in
theorem t_Box_isSheet (d : Nat) (sg : Hp) (x0 : Int32)  (y : Int32 × Hp) (h : f_Box_isSheet sg x0 = some y) : Sm (d + 0) 23 [.int x0] sg (some (.int y.1)) y.2 := by
  unfold f_Box_isSheet at h
  refine Sm.of (lv := [(0, .int x0)]) rfl ?_
  refine G_iload rfl rfl ?_
  refine G_if_lt 13 rfl rfl (fun hc => ?_) (fun hc => ?_)
  · rw [if_pos hc] at h
    refine G_iconst (0 : Int32) rfl (by decide) ?_
    cases h
    exact G_iret rfl rfl
  · rw [if_neg hc] at h
    refine G_iload rfl rfl ?_
    refine G_iconst (4 : Int32) rfl (by decide) ?_
    refine G_ic_ge 13 rfl rfl (fun hc => ?_) (fun hc => ?_)
    · rw [if_pos hc] at h
      refine G_iconst (0 : Int32) rfl (by decide) ?_
      cases h
      exact G_iret rfl rfl
    · rw [if_neg hc] at h
      refine G_iconst (1 : Int32) rfl (by decide) ?_
      refine G_goto 14 rfl rfl ?_
      cases h
      exact G_iret rfl rfl
set_option maxRecDepth 100000 in
set_option maxHeartbeats 4000000 in
theorem t_Sheet_isLost (d : Nat) (sg : Hp) (a0 : Nat) (h0 : clsOf a0 = 4) (y : Int32 × Hp) (h : f_Sheet_isLost sg a0 = some y) : Sm (d + 0) 24 [.ref a0] sg (some (.int y.1)) y.2 := by
  unfold f_Sheet_isLost at h
  refine Sm.of (lv := [(0, .ref a0)]) rfl ?_
  refine G_aload rfl rfl ?_
  refine G_getI (ci := 4) 1 rfl h0 rfl rfl rfl ?_
  refine G_iconst (-1 : Int32) rfl (by decide) ?_
  refine G_ic_ne 12 rfl rfl (fun hc => ?_) (fun hc => ?_)
  · rw [if_neg hc] at h
    refine G_iconst (0 : Int32) rfl (by decide) ?_
    cases h
    exact G_iret rfl rfl
  · rw [if_pos hc] at h
    refine G_iconst (1 : Int32) rfl (by decide) ?_
    refine G_goto 13 rfl rfl ?_
    cases h
    exact G_iret rfl rfl
set_option maxRecDepth 100000 in
set_option maxHeartbeats 4000000 in
theorem t_Box_found (d : Nat) (sg : Hp) (x1 : Int32)  (y : Int32 × Hp) (h : f_Box_found sg x1 = some y) : Sm (d + 0) 25 [.ref 0, .int x1] sg (some (.int y.1)) y.2 := by
  unfold f_Box_found at h
  refine Sm.of (lv := [(0, .ref 0), (1, .int x1)]) rfl ?_
  refine G_aload rfl rfl ?_
  refine G_iload rfl rfl ?_
  refine G_putI (ci := 9) 10 rfl rfl rfl rfl rfl ?_
  refine G_iconst (-10 : Int32) rfl (by decide) ?_
  refine G_iload rfl rfl ?_
  refine G_isub rfl ?_
  cases h
  exact G_iret rfl rfl
set_option maxRecDepth 100000 in
set_option maxHeartbeats 4000000 in
theorem t_Box_read_45 (d : Nat)   : ∀ (n : Nat) (sg : Hp) (a2 : Nat) (x3 : Int32) (x4 : Int32) (h2 : clsOf a2 = 4) (y : Int32 × Hp), f_Box_read_45  n sg a2 x3 x4 = some y → Go (d + 2) none 22 45 [(0, .ref 0), (2, .ref a2), (3, .int x3), (4, .int x4)] [] sg (some (.int y.1)) y.2 := by
  intro n
  induction n with
  | zero =>
    intro sg a2 x3 x4 h2 y h
    rw [f_Box_read_45] at h
    cases h
  | succ n ih =>
    intro sg a2 x3 x4 h2 y h
    rw [f_Box_read_45] at h
    refine G_iload rfl rfl ?_
    refine G_iload rfl rfl ?_
    refine G_ic_ge 128 rfl rfl (fun hc => ?_) (fun hc => ?_)
    · rw [if_pos hc] at h
      refine G_iload rfl rfl ?_
      cases h
      exact G_iret rfl rfl
    · rw [if_neg hc] at h
      refine G_aload rfl rfl ?_
      refine G_getR (ci := 4) (rt a2 0) rfl h2 rfl rfl rfl ?_
      refine G_iconst (3 : Int32) rfl (by decide) ?_
      refine G_iload rfl rfl ?_
      refine G_imul rfl ?_
      obtain ⟨hg4, h⟩ := if_some h
      refine G_iald rfl (rt_cls h2 0 rfl).1 (rt_cls h2 0 rfl).2 hg4 ?_
      refine G_istore rfl rfl ?_
      refine G_aload rfl rfl ?_
      refine G_getR (ci := 4) (rt a2 0) rfl h2 rfl rfl rfl ?_
      refine G_iconst (3 : Int32) rfl (by decide) ?_
      refine G_iload rfl rfl ?_
      refine G_imul rfl ?_
      refine G_iconst (1 : Int32) rfl (by decide) ?_
      refine G_iadd rfl ?_
      obtain ⟨hg5, h⟩ := if_some h
      refine G_iald rfl (rt_cls h2 0 rfl).1 (rt_cls h2 0 rfl).2 hg5 ?_
      refine G_istore rfl rfl ?_
      refine G_aload rfl rfl ?_
      refine G_getR (ci := 4) (rt a2 0) rfl h2 rfl rfl rfl ?_
      refine G_iconst (3 : Int32) rfl (by decide) ?_
      refine G_iload rfl rfl ?_
      refine G_imul rfl ?_
      refine G_iconst (2 : Int32) rfl (by decide) ?_
      refine G_iadd rfl ?_
      obtain ⟨hg6, h⟩ := if_some h
      refine G_iald rfl (rt_cls h2 0 rfl).1 (rt_cls h2 0 rfl).2 hg6 ?_
      refine G_istore rfl rfl ?_
      refine G_aload rfl rfl ?_
      refine G_getR (ci := 9) 1 rfl rfl rfl rfl rfl ?_
      refine G_iload rfl rfl ?_
      refine G_iload rfl rfl ?_
      refine G_iload rfl rfl ?_
      obtain ⟨y7, hy7, h⟩ := Option.bind_eq_some_iff.mp h
      refine G_callvI 4 (t_Room_holds _ _ _ _ _  _ hy7) rfl rfl rfl rfl rfl rfl rfl rfl rfl rfl rfl ?_
      refine G_if_ne 107 rfl rfl (fun hc => ?_) (fun hc => ?_)
      · rw [if_neg hc] at h
        refine G_aload rfl rfl ?_
        refine G_getR (ci := 9) 1 rfl rfl rfl rfl rfl ?_
        refine G_iload rfl rfl ?_
        refine G_iload rfl rfl ?_
        refine G_iload rfl rfl ?_
        refine G_iload rfl rfl ?_
        obtain ⟨y8, hy8, h⟩ := Option.bind_eq_some_iff.mp h
        refine G_callvV 5 (t_Room_move _ _ _ _ _ _  _ hy8) rfl rfl rfl rfl rfl rfl rfl rfl rfl rfl rfl ?_
        refine G_iinc (1 : Int32) rfl (by decide) rfl rfl ?_
        refine G_goto 45 rfl rfl ?_
        exact Go.weak' (ih _ _ _ _ h2 _ h) ⟨rfl, rfl, rfl, rfl, trivial⟩
      · rw [if_pos hc] at h
        refine G_iload rfl rfl ?_
        cases h
        exact G_iret rfl rfl
set_option maxRecDepth 100000 in
set_option maxHeartbeats 4000000 in
theorem t_Box_read (d : Nat) (sg : Hp) (x1 : Int32)  (y : Int32 × Hp) (h : f_Box_read sg x1 = some y) : Sm (d + 2) 22 [.ref 0, .int x1] sg (some (.int y.1)) y.2 := by
  unfold f_Box_read at h
  refine Sm.of (lv := [(0, .ref 0), (1, .int x1)]) rfl ?_
  refine G_iload rfl rfl ?_
  obtain ⟨y1, hy1, h⟩ := Option.bind_eq_some_iff.mp h
  refine G_callsI 1 (t_Box_isSheet _ _ _  _ hy1) rfl rfl rfl rfl rfl rfl rfl rfl rfl ?_
  refine G_if_ne 10 rfl rfl (fun hc => ?_) (fun hc => ?_)
  · rw [if_neg hc] at h
    refine G_aload rfl rfl ?_
    refine G_getR (ci := 9) 32 rfl rfl rfl rfl rfl ?_
    refine G_iload rfl rfl ?_
    obtain ⟨hg2, h⟩ := if_some h
    refine G_aald (t := 22) rfl rfl (Or.inr rfl) rfl hg2 ?_
    refine G_astore rfl rfl ?_
    refine G_aload rfl rfl ?_
    obtain ⟨y3, hy3, h⟩ := Option.bind_eq_some_iff.mp h
    refine G_callvI 1 (t_Sheet_isLost _ _ _ (rt_el22 (a := 32) rfl (inb_lt hg2)) _ hy3) rfl rfl rfl rfl rfl rfl rfl rfl rfl (rt_el22 (a := 32) rfl (inb_lt hg2)) rfl ?_
    refine G_if_eq 30 rfl rfl (fun hc => ?_) (fun hc => ?_)
    · rw [if_pos hc] at h
      refine G_aload rfl rfl ?_
      refine G_getI (ci := 4) 2 rfl (rt_el22 (a := 32) rfl (inb_lt hg2)) rfl rfl rfl ?_
      refine G_iconst (3 : Int32) rfl (by decide) ?_
      refine G_idiv rfl (by decide) ?_
      refine G_iconst (8 : Int32) rfl (by decide) ?_
      refine G_min rfl rfl rfl ?_
      refine G_istore rfl rfl ?_
      refine G_iconst (0 : Int32) rfl (by decide) ?_
      refine G_istore rfl rfl ?_
      exact Go.weak' (t_Box_read_45 d  _ _ _ _ _ (rt_el22 (a := 32) rfl (inb_lt hg2)) _ h) ⟨rfl, rfl, rfl, rfl, trivial⟩
    · rw [if_neg hc] at h
      refine G_aload rfl rfl ?_
      refine G_iconst (1 : Int32) rfl (by decide) ?_
      obtain ⟨y9, hy9, h⟩ := Option.bind_eq_some_iff.mp h
      refine G_callvI 2 (t_Box_found _ _ _  _ hy9) rfl rfl rfl rfl rfl rfl rfl rfl rfl rfl rfl ?_
      cases h
      exact G_iret rfl rfl
  · rw [if_pos hc] at h
    refine G_iconst (-2 : Int32) rfl (by decide) ?_
    cases h
    exact G_iret rfl rfl
set_option maxRecDepth 100000 in
set_option maxHeartbeats 4000000 in
theorem t_Mod_isSheet (d : Nat) (sg : Hp) (x0 : Int32)  (y : Int32 × Hp) (h : f_Mod_isSheet sg x0 = some y) : Sm (d + 1) 100 [.int x0] sg (some (.int y.1)) y.2 := by
  unfold f_Mod_isSheet at h
  refine Sm.of (lv := [(0, .int x0)]) rfl ?_
  refine G_iload rfl rfl ?_
  refine G_i2l rfl ?_
  refine G_lconst (0 : Int64) rfl (by decide) ?_
  refine G_ldc2 (3 : Int64) rfl (by decide) ?_
  obtain ⟨y1, hy1, h⟩ := Option.bind_eq_some_iff.mp h
  refine G_callsI 3 (t_Mod_in _ _ _ _ _  _ hy1) rfl rfl rfl rfl rfl rfl rfl rfl rfl ?_
  obtain ⟨hz, h⟩ := if_some h
  cases h
  exact G_iret rfl (retZ_b rfl hz)
set_option maxRecDepth 100000 in
set_option maxHeartbeats 4000000 in
theorem t_Mod_met (d : Nat) (sg : Hp) (x1 : Int32)  (y : Int32 × Hp) (h : f_Mod_met sg x1 = some y) : Sm (d + 0) 102 [.ref 46, .int x1] sg (some (.int y.1)) y.2 := by
  unfold f_Mod_met at h
  refine Sm.of (lv := [(0, .ref 46), (1, .int x1)]) rfl ?_
  refine G_aload rfl rfl ?_
  refine G_iload rfl rfl ?_
  refine G_putI (ci := 10) 4 rfl rfl rfl rfl rfl ?_
  refine G_iconst (-10 : Int32) rfl (by decide) ?_
  refine G_iload rfl rfl ?_
  refine G_isub rfl ?_
  cases h
  exact G_iret rfl rfl
set_option maxRecDepth 100000 in
set_option maxHeartbeats 4000000 in
theorem t_Mod_read_113 (d : Nat) {k29 : Hp → Int32 → Int32 → Int32 → Option (Int32 × Hp)} (hk29 : ∀ (sg : Hp) (x1 : Int32) (x2 : Int32) (x3 : Int32)  (y : Int32 × Hp), k29 sg x1 x2 x3 = some y → Go (d + 4) none 121 29 [(0, .ref 46), (1, .int x1), (2, .int x2), (3, .int x3)] [] sg (some (.int y.1)) y.2) (sg : Hp) (x1 : Int32) (x3 : Int32) (xs0 : Int32) (xs1 : Int32)  (y : Int32 × Hp) (h : f_Mod_read_113 k29 sg x1 x3 xs0 xs1 = some y) : Go (d + 4) none 121 113 [(0, .ref 46), (1, .int x1), (3, .int x3)] [.int xs0, .int xs1] sg (some (.int y.1)) y.2 := by
  unfold f_Mod_read_113 at h
  refine G_iadd rfl ?_
  refine G_istore rfl rfl ?_
  refine G_goto 29 rfl rfl ?_
  exact Go.weak' (hk29 _ _ _ _  _ h) ⟨rfl, rfl, rfl, rfl, trivial⟩
set_option maxRecDepth 100000 in
set_option maxHeartbeats 4000000 in
theorem t_Mod_read_102 (d : Nat) {k29 : Hp → Int32 → Int32 → Int32 → Option (Int32 × Hp)} (hk29 : ∀ (sg : Hp) (x1 : Int32) (x2 : Int32) (x3 : Int32)  (y : Int32 × Hp), k29 sg x1 x2 x3 = some y → Go (d + 4) none 121 29 [(0, .ref 46), (1, .int x1), (2, .int x2), (3, .int x3)] [] sg (some (.int y.1)) y.2) (sg : Hp) (x1 : Int32) (x2 : Int32) (xs0 : Int32)  (y : Int32 × Hp) (h : f_Mod_read_102 k29 sg x1 x2 xs0 = some y) : Go (d + 4) none 121 102 [(0, .ref 46), (1, .int x1), (2, .int x2)] [.int xs0] sg (some (.int y.1)) y.2 := by
  unfold f_Mod_read_102 at h
  refine G_istore rfl rfl ?_
  refine G_iload rfl rfl ?_
  refine G_iload rfl rfl ?_
  refine G_if_eq 112 rfl rfl (fun hc => ?_) (fun hc => ?_)
  · rw [if_pos hc] at h
    refine G_iconst (0 : Int32) rfl (by decide) ?_
    exact Go.weak' (t_Mod_read_113 d hk29 _ _ _ _ _  _ h) ⟨rfl, rfl, rfl, trivial⟩
  · rw [if_neg hc] at h
    refine G_iconst (1 : Int32) rfl (by decide) ?_
    refine G_goto 113 rfl rfl ?_
    exact Go.weak' (t_Mod_read_113 d hk29 _ _ _ _ _  _ h) ⟨rfl, rfl, rfl, trivial⟩
set_option maxRecDepth 100000 in
set_option maxHeartbeats 4000000 in
theorem t_Mod_read_29 (d : Nat)   : ∀ (n : Nat) (sg : Hp) (x1 : Int32) (x2 : Int32) (x3 : Int32)  (y : Int32 × Hp), f_Mod_read_29  n sg x1 x2 x3 = some y → Go (d + 4) none 121 29 [(0, .ref 46), (1, .int x1), (2, .int x2), (3, .int x3)] [] sg (some (.int y.1)) y.2 := by
  intro n
  induction n with
  | zero =>
    intro sg x1 x2 x3 y h
    rw [f_Mod_read_29] at h
    cases h
  | succ n ih =>
    intro sg x1 x2 x3 y h
    rw [f_Mod_read_29] at h
    refine G_iload rfl rfl ?_
    refine G_if_eq 118 rfl rfl (fun hc => ?_) (fun hc => ?_)
    · rw [if_pos hc] at h
      refine G_iload rfl rfl ?_
      cases h
      exact G_iret rfl rfl
    · rw [if_neg hc] at h
      refine G_iload rfl rfl ?_
      refine G_iconst (8 : Int32) rfl (by decide) ?_
      refine G_ic_ge 118 rfl rfl (fun hc => ?_) (fun hc => ?_)
      · rw [if_pos hc] at h
        refine G_iload rfl rfl ?_
        cases h
        exact G_iret rfl rfl
      · rw [if_neg hc] at h
        refine G_iconst (3 : Int32) rfl (by decide) ?_
        refine G_iload rfl rfl ?_
        refine G_imul rfl ?_
        refine G_iconst (3 : Int32) rfl (by decide) ?_
        refine G_iadd rfl ?_
        refine G_aload rfl rfl ?_
        refine G_getR (ci := 10) 48 rfl rfl rfl rfl rfl ?_
        refine G_iload rfl rfl ?_
        obtain ⟨hg3, h⟩ := if_some h
        refine G_iald rfl rfl rfl hg3 ?_
        refine G_ic_gt 118 rfl rfl (fun hc => ?_) (fun hc => ?_)
        · rw [if_pos hc] at h
          refine G_iload rfl rfl ?_
          cases h
          exact G_iret rfl rfl
        · rw [if_neg hc] at h
          refine G_iconst (60 : Int32) rfl (by decide) ?_
          refine G_iload rfl rfl ?_
          refine G_imul rfl ?_
          refine G_iconst (3 : Int32) rfl (by decide) ?_
          refine G_iload rfl rfl ?_
          refine G_imul rfl ?_
          refine G_iadd rfl ?_
          refine G_istore rfl rfl ?_
          refine G_aload rfl rfl ?_
          refine G_iload rfl rfl ?_
          refine G_aload rfl rfl ?_
          refine G_getR (ci := 10) 49 rfl rfl rfl rfl rfl ?_
          refine G_iload rfl rfl ?_
          obtain ⟨hg4, h⟩ := if_some h
          refine G_iald rfl rfl rfl hg4 ?_
          refine G_aload rfl rfl ?_
          refine G_getR (ci := 10) 49 rfl rfl rfl rfl rfl ?_
          refine G_iload rfl rfl ?_
          refine G_iconst (1 : Int32) rfl (by decide) ?_
          refine G_iadd rfl ?_
          obtain ⟨hg5, h⟩ := if_some h
          refine G_iald rfl rfl rfl hg5 ?_
          refine G_aload rfl rfl ?_
          refine G_getR (ci := 10) 49 rfl rfl rfl rfl rfl ?_
          refine G_iload rfl rfl ?_
          refine G_iconst (2 : Int32) rfl (by decide) ?_
          refine G_iadd rfl ?_
          obtain ⟨hg6, h⟩ := if_some h
          refine G_iald rfl rfl rfl hg6 ?_
          obtain ⟨y7, hy7, h⟩ := Option.bind_eq_some_iff.mp h
          refine G_callvI 5 (t_Mod_place _ _ _ _ _ _  _ hy7) rfl rfl rfl rfl rfl rfl rfl rfl rfl rfl rfl ?_
          refine G_iconst (1 : Int32) rfl (by decide) ?_
          refine G_ic_ne 101 rfl rfl (fun hc => ?_) (fun hc => ?_)
          · rw [if_neg hc] at h
            refine G_iconst (0 : Int32) rfl (by decide) ?_
            exact Go.weak' (t_Mod_read_102 d ih _ _ _ _  _ h) ⟨rfl, rfl, rfl, trivial⟩
          · rw [if_pos hc] at h
            refine G_iconst (1 : Int32) rfl (by decide) ?_
            refine G_goto 102 rfl rfl ?_
            exact Go.weak' (t_Mod_read_102 d ih _ _ _ _  _ h) ⟨rfl, rfl, rfl, trivial⟩
set_option maxRecDepth 100000 in
set_option maxHeartbeats 4000000 in
theorem t_Mod_read (d : Nat) (sg : Hp) (x1 : Int32)  (y : Int32 × Hp) (h : f_Mod_read sg x1 = some y) : Sm (d + 4) 121 [.ref 46, .int x1] sg (some (.int y.1)) y.2 := by
  unfold f_Mod_read at h
  refine Sm.of (lv := [(0, .ref 46), (1, .int x1)]) rfl ?_
  refine G_iload rfl rfl ?_
  obtain ⟨y1, hy1, h⟩ := Option.bind_eq_some_iff.mp h
  refine G_callsI 1 (t_Mod_isSheet _ _ _  _ hy1) rfl rfl rfl rfl rfl rfl rfl rfl rfl ?_
  refine G_if_ne 10 rfl rfl (fun hc => ?_) (fun hc => ?_)
  · rw [if_neg hc] at h
    refine G_aload rfl rfl ?_
    refine G_getR (ci := 10) 47 rfl rfl rfl rfl rfl ?_
    refine G_iload rfl rfl ?_
    obtain ⟨hg2, h⟩ := if_some h
    refine G_iald rfl rfl rfl hg2 ?_
    refine G_if_ge 25 rfl rfl (fun hc => ?_) (fun hc => ?_)
    · rw [if_pos hc] at h
      refine G_iconst (0 : Int32) rfl (by decide) ?_
      refine G_istore rfl rfl ?_
      refine G_iconst (1 : Int32) rfl (by decide) ?_
      refine G_istore rfl rfl ?_
      exact Go.weak' (t_Mod_read_29 d  _ _ _ _ _  _ h) ⟨rfl, rfl, rfl, rfl, trivial⟩
    · rw [if_neg hc] at h
      refine G_aload rfl rfl ?_
      refine G_iconst (1 : Int32) rfl (by decide) ?_
      obtain ⟨y8, hy8, h⟩ := Option.bind_eq_some_iff.mp h
      refine G_callvI 2 (t_Mod_met _ _ _  _ hy8) rfl rfl rfl rfl rfl rfl rfl rfl rfl rfl rfl ?_
      cases h
      exact G_iret rfl rfl
  · rw [if_pos hc] at h
    refine G_iconst (-2 : Int32) rfl (by decide) ?_
    cases h
    exact G_iret rfl rfl
set_option maxRecDepth 100000 in
set_option maxHeartbeats 4000000 in
theorem t_Rolls_append (d : Nat) (sg : Hp) (x1 : Int32)  (y : Hp) (h : f_Rolls_append sg x1 = some y) : Sm (d + 0) 27 [.ref 9, .int x1] sg none y := by
  unfold f_Rolls_append at h
  refine Sm.of (lv := [(0, .ref 9), (1, .int x1)]) rfl ?_
  refine G_aload rfl rfl ?_
  refine G_getI (ci := 1) 1 rfl rfl rfl rfl rfl ?_
  refine G_iconst (40 : Int32) rfl (by decide) ?_
  refine G_ic_ge 29 rfl rfl (fun hc => ?_) (fun hc => ?_)
  · rw [if_pos hc] at h
    cases h
    exact G_vret rfl rfl
  · rw [if_neg hc] at h
    refine G_aload rfl rfl ?_
    refine G_getR (ci := 1) 10 rfl rfl rfl rfl rfl ?_
    refine G_aload rfl rfl ?_
    refine G_getI (ci := 1) 1 rfl rfl rfl rfl rfl ?_
    refine G_iload rfl rfl ?_
    obtain ⟨hg1, h⟩ := if_some h
    refine G_iast rfl rfl rfl hg1 ?_
    refine G_aload rfl rfl ?_
    refine G_dupr rfl ?_
    refine G_getI (ci := 1) 1 rfl rfl rfl rfl rfl ?_
    refine G_iconst (1 : Int32) rfl (by decide) ?_
    refine G_iadd rfl ?_
    refine G_putI (ci := 1) 1 rfl rfl rfl rfl rfl ?_
    cases h
    exact G_vret rfl rfl
set_option maxRecDepth 100000 in
set_option maxHeartbeats 4000000 in
theorem t_Box_type (d : Nat) (sg : Hp) (x1 : Int32)  (y : Int32 × Hp) (h : f_Box_type sg x1 = some y) : Sm (d + 1) 26 [.ref 0, .int x1] sg (some (.int y.1)) y.2 := by
  unfold f_Box_type at h
  refine Sm.of (lv := [(0, .ref 0), (1, .int x1)]) rfl ?_
  refine G_iload rfl rfl ?_
  refine G_if_lt 11 rfl rfl (fun hc => ?_) (fun hc => ?_)
  · rw [if_pos hc] at h
    refine G_iconst (-2 : Int32) rfl (by decide) ?_
    cases h
    exact G_iret rfl rfl
  · rw [if_neg hc] at h
    refine G_iload rfl rfl ?_
    refine G_iconst (255 : Int32) rfl (by decide) ?_
    refine G_ic_le 14 rfl rfl (fun hc => ?_) (fun hc => ?_)
    · rw [if_pos hc] at h
      refine G_aload rfl rfl ?_
      refine G_getR (ci := 9) 9 rfl rfl rfl rfl rfl ?_
      refine G_getI (ci := 1) 1 rfl rfl rfl rfl rfl ?_
      refine G_iconst (40 : Int32) rfl (by decide) ?_
      refine G_ic_lt 29 rfl rfl (fun hc => ?_) (fun hc => ?_)
      · rw [if_pos hc] at h
        refine G_aload rfl rfl ?_
        refine G_getR (ci := 9) 9 rfl rfl rfl rfl rfl ?_
        refine G_iload rfl rfl ?_
        obtain ⟨y1, hy1, h⟩ := Option.bind_eq_some_iff.mp h
        refine G_callvV 2 (t_Rolls_append _ _ _  _ hy1) rfl rfl rfl rfl rfl rfl rfl rfl rfl rfl rfl ?_
        refine G_aload rfl rfl ?_
        refine G_getR (ci := 9) 9 rfl rfl rfl rfl rfl ?_
        refine G_getI (ci := 1) 1 rfl rfl rfl rfl rfl ?_
        cases h
        exact G_iret rfl rfl
      · rw [if_neg hc] at h
        refine G_iconst (-4 : Int32) rfl (by decide) ?_
        cases h
        exact G_iret rfl rfl
    · rw [if_neg hc] at h
      refine G_iconst (-2 : Int32) rfl (by decide) ?_
      cases h
      exact G_iret rfl rfl
set_option maxRecDepth 100000 in
set_option maxHeartbeats 4000000 in
theorem t_Mod_type (d : Nat) (sg : Hp) (x1 : Int32)  (y : Int32 × Hp) (h : f_Mod_type sg x1 = some y) : Sm (d + 1) 125 [.ref 46, .int x1] sg (some (.int y.1)) y.2 := by
  unfold f_Mod_type at h
  refine Sm.of (lv := [(0, .ref 46), (1, .int x1)]) rfl ?_
  refine G_iload rfl rfl ?_
  refine G_i2l rfl ?_
  refine G_lconst (0 : Int64) rfl (by decide) ?_
  refine G_ldc2 (255 : Int64) rfl (by decide) ?_
  obtain ⟨y1, hy1, h⟩ := Option.bind_eq_some_iff.mp h
  refine G_callsI 3 (t_Mod_in _ _ _ _ _  _ hy1) rfl rfl rfl rfl rfl rfl rfl rfl rfl ?_
  refine G_if_ne 15 rfl rfl (fun hc => ?_) (fun hc => ?_)
  · rw [if_neg hc] at h
    refine G_aload rfl rfl ?_
    refine G_getI (ci := 10) 9 rfl rfl rfl rfl rfl ?_
    refine G_iconst (40 : Int32) rfl (by decide) ?_
    refine G_ic_ne 27 rfl rfl (fun hc => ?_) (fun hc => ?_)
    · rw [if_neg hc] at h
      refine G_aload rfl rfl ?_
      refine G_getR (ci := 10) 54 rfl rfl rfl rfl rfl ?_
      refine G_aload rfl rfl ?_
      refine G_getI (ci := 10) 9 rfl rfl rfl rfl rfl ?_
      refine G_iload rfl rfl ?_
      obtain ⟨hg2, h⟩ := if_some h
      refine G_iast rfl rfl rfl hg2 ?_
      refine G_aload rfl rfl ?_
      refine G_dupr rfl ?_
      refine G_getI (ci := 10) 9 rfl rfl rfl rfl rfl ?_
      refine G_iconst (1 : Int32) rfl (by decide) ?_
      refine G_iadd rfl ?_
      refine G_putI (ci := 10) 9 rfl rfl rfl rfl rfl ?_
      refine G_aload rfl rfl ?_
      refine G_getI (ci := 10) 9 rfl rfl rfl rfl rfl ?_
      cases h
      exact G_iret rfl rfl
    · rw [if_pos hc] at h
      refine G_iconst (-4 : Int32) rfl (by decide) ?_
      cases h
      exact G_iret rfl rfl
  · rw [if_pos hc] at h
    refine G_iconst (-2 : Int32) rfl (by decide) ?_
    cases h
    exact G_iret rfl rfl
set_option maxRecDepth 100000 in
set_option maxHeartbeats 4000000 in
theorem t_Box_undo (d : Nat) (sg : Hp)   (y : Int32 × Hp) (h : f_Box_undo sg  = some y) : Sm (d + 0) 28 [.ref 0] sg (some (.int y.1)) y.2 := by
  unfold f_Box_undo at h
  refine Sm.of (lv := [(0, .ref 0)]) rfl ?_
  refine G_aload rfl rfl ?_
  refine G_getR (ci := 9) 9 rfl rfl rfl rfl rfl ?_
  refine G_getI (ci := 1) 1 rfl rfl rfl rfl rfl ?_
  refine G_if_ne 13 rfl rfl (fun hc => ?_) (fun hc => ?_)
  · rw [if_neg hc] at h
    refine G_aload rfl rfl ?_
    refine G_getR (ci := 9) 9 rfl rfl rfl rfl rfl ?_
    refine G_dupr rfl ?_
    refine G_getI (ci := 1) 1 rfl rfl rfl rfl rfl ?_
    refine G_iconst (1 : Int32) rfl (by decide) ?_
    refine G_isub rfl ?_
    refine G_putI (ci := 1) 1 rfl rfl rfl rfl rfl ?_
    refine G_aload rfl rfl ?_
    refine G_getR (ci := 9) 9 rfl rfl rfl rfl rfl ?_
    refine G_getI (ci := 1) 1 rfl rfl rfl rfl rfl ?_
    cases h
    exact G_iret rfl rfl
  · rw [if_pos hc] at h
    refine G_iconst (-3 : Int32) rfl (by decide) ?_
    cases h
    exact G_iret rfl rfl
set_option maxRecDepth 100000 in
set_option maxHeartbeats 4000000 in
theorem t_Mod_undo (d : Nat) (sg : Hp)   (y : Int32 × Hp) (h : f_Mod_undo sg  = some y) : Sm (d + 0) 126 [.ref 46] sg (some (.int y.1)) y.2 := by
  unfold f_Mod_undo at h
  refine Sm.of (lv := [(0, .ref 46)]) rfl ?_
  refine G_aload rfl rfl ?_
  refine G_getI (ci := 10) 9 rfl rfl rfl rfl rfl ?_
  refine G_if_ne 10 rfl rfl (fun hc => ?_) (fun hc => ?_)
  · rw [if_neg hc] at h
    refine G_aload rfl rfl ?_
    refine G_dupr rfl ?_
    refine G_getI (ci := 10) 9 rfl rfl rfl rfl rfl ?_
    refine G_iconst (1 : Int32) rfl (by decide) ?_
    refine G_isub rfl ?_
    refine G_putI (ci := 10) 9 rfl rfl rfl rfl rfl ?_
    refine G_aload rfl rfl ?_
    refine G_getI (ci := 10) 9 rfl rfl rfl rfl rfl ?_
    cases h
    exact G_iret rfl rfl
  · rw [if_pos hc] at h
    refine G_iconst (-3 : Int32) rfl (by decide) ?_
    cases h
    exact G_iret rfl rfl
set_option maxRecDepth 100000 in
set_option maxHeartbeats 4000000 in
theorem t_Box_wipe (d : Nat) (sg : Hp)   (y : Int32 × Hp) (h : f_Box_wipe sg  = some y) : Sm (d + 0) 29 [.ref 0] sg (some (.int y.1)) y.2 := by
  unfold f_Box_wipe at h
  refine Sm.of (lv := [(0, .ref 0)]) rfl ?_
  refine G_aload rfl rfl ?_
  refine G_getR (ci := 9) 9 rfl rfl rfl rfl rfl ?_
  refine G_getI (ci := 1) 1 rfl rfl rfl rfl rfl ?_
  refine G_istore rfl rfl ?_
  refine G_aload rfl rfl ?_
  refine G_getR (ci := 9) 9 rfl rfl rfl rfl rfl ?_
  refine G_iconst (0 : Int32) rfl (by decide) ?_
  refine G_putI (ci := 1) 1 rfl rfl rfl rfl rfl ?_
  refine G_iload rfl rfl ?_
  cases h
  exact G_iret rfl rfl
set_option maxRecDepth 100000 in
set_option maxHeartbeats 4000000 in
theorem t_Mod_wipe (d : Nat) (sg : Hp)   (y : Int32 × Hp) (h : f_Mod_wipe sg  = some y) : Sm (d + 0) 127 [.ref 46] sg (some (.int y.1)) y.2 := by
  unfold f_Mod_wipe at h
  refine Sm.of (lv := [(0, .ref 46)]) rfl ?_
  refine G_aload rfl rfl ?_
  refine G_getI (ci := 10) 9 rfl rfl rfl rfl rfl ?_
  refine G_istore rfl rfl ?_
  refine G_aload rfl rfl ?_
  refine G_iconst (0 : Int32) rfl (by decide) ?_
  refine G_putI (ci := 10) 9 rfl rfl rfl rfl rfl ?_
  refine G_iload rfl rfl ?_
  cases h
  exact G_iret rfl rfl
set_option maxRecDepth 100000 in
set_option maxHeartbeats 4000000 in
theorem t_Rolls_rollOf (d : Nat) (sg : Hp) (x0 : Int32)  (y : Int32 × Hp) (h : f_Rolls_rollOf sg x0 = some y) : Sm (d + 0) 32 [.int x0] sg (some (.int y.1)) y.2 := by
  unfold f_Rolls_rollOf at h
  refine Sm.of (lv := [(0, .int x0)]) rfl ?_
  refine G_iload rfl rfl ?_
  by_cases hc1_0 : x0 = (101 : Int32)
  · rw [if_pos hc1_0] at h
    refine G_lsw 44 rfl (by rw [hc1_0]; rfl) ?_
    refine G_iconst (1 : Int32) rfl (by decide) ?_
    cases h
    exact G_iret rfl rfl
  · rw [if_neg hc1_0] at h
    by_cases hc1_1 : x0 = (110 : Int32)
    · rw [if_pos hc1_1] at h
      refine G_lsw 48 rfl (by rw [hc1_1]; rfl) ?_
      refine G_iconst (3 : Int32) rfl (by decide) ?_
      cases h
      exact G_iret rfl rfl
    · rw [if_neg hc1_1] at h
      by_cases hc1_2 : x0 = (115 : Int32)
      · rw [if_pos hc1_2] at h
        refine G_lsw 50 rfl (by rw [hc1_2]; rfl) ?_
        refine G_iconst (4 : Int32) rfl (by decide) ?_
        cases h
        exact G_iret rfl rfl
      · rw [if_neg hc1_2] at h
        by_cases hc1_3 : x0 = (119 : Int32)
        · rw [if_pos hc1_3] at h
          refine G_lsw 46 rfl (by rw [hc1_3]; rfl) ?_
          refine G_iconst (2 : Int32) rfl (by decide) ?_
          cases h
          exact G_iret rfl rfl
        · rw [if_neg hc1_3] at h
          refine G_lsw 52 rfl (by show (swl [(101, 44), (110, 48), (115, 50), (119, 46)] 52 _).toNat = _; rw [swl_ne (fun q => ti_ne hc1_0 (n := 101) rfl q.symm), swl_ne (fun q => ti_ne hc1_1 (n := 110) rfl q.symm), swl_ne (fun q => ti_ne hc1_2 (n := 115) rfl q.symm), swl_ne (fun q => ti_ne hc1_3 (n := 119) rfl q.symm)]; rfl) ?_
          refine G_iconst (0 : Int32) rfl (by decide) ?_
          cases h
          exact G_iret rfl rfl
set_option maxRecDepth 100000 in
set_option maxHeartbeats 4000000 in
theorem t_Rolls_firstWrong_2 (d : Nat)   : ∀ (n : Nat) (sg : Hp) (x1 : Int32)  (y : Int32 × Hp), f_Rolls_firstWrong_2  n sg x1 = some y → Go (d + 1) none 31 2 [(0, .ref 9), (1, .int x1)] [] sg (some (.int y.1)) y.2 := by
  intro n
  induction n with
  | zero =>
    intro sg x1 y h
    rw [f_Rolls_firstWrong_2] at h
    cases h
  | succ n ih =>
    intro sg x1 y h
    rw [f_Rolls_firstWrong_2] at h
    refine G_iload rfl rfl ?_
    refine G_aload rfl rfl ?_
    refine G_getI (ci := 1) 1 rfl rfl rfl rfl rfl ?_
    refine G_ic_ge 36 rfl rfl (fun hc => ?_) (fun hc => ?_)
    · rw [if_pos hc] at h
      refine G_iconst (-1 : Int32) rfl (by decide) ?_
      cases h
      exact G_iret rfl rfl
    · rw [if_neg hc] at h
      refine G_iload rfl rfl ?_
      refine G_iconst (20 : Int32) rfl (by decide) ?_
      refine G_ic_ge 28 rfl rfl (fun hc => ?_) (fun hc => ?_)
      · rw [if_pos hc] at h
        refine G_iload rfl rfl ?_
        cases h
        exact G_iret rfl rfl
      · rw [if_neg hc] at h
        refine G_aload rfl rfl ?_
        refine G_getR (ci := 1) 10 rfl rfl rfl rfl rfl ?_
        refine G_iload rfl rfl ?_
        obtain ⟨hg1, h⟩ := if_some h
        refine G_iald rfl rfl rfl hg1 ?_
        obtain ⟨y2, hy2, h⟩ := Option.bind_eq_some_iff.mp h
        refine G_callsI 1 (t_Rolls_rollOf _ _ _  _ hy2) rfl rfl rfl rfl rfl rfl rfl rfl rfl ?_
        refine G_if_ne 30 rfl rfl (fun hc => ?_) (fun hc => ?_)
        · rw [if_neg hc] at h
          refine G_iinc (1 : Int32) rfl (by decide) rfl rfl ?_
          refine G_goto 2 rfl rfl ?_
          exact Go.weak' (ih _ _  _ h) ⟨rfl, rfl, trivial⟩
        · rw [if_pos hc] at h
          refine G_iload rfl rfl ?_
          cases h
          exact G_iret rfl rfl
set_option maxRecDepth 100000 in
set_option maxHeartbeats 4000000 in
theorem t_Rolls_firstWrong (d : Nat) (sg : Hp)   (y : Int32 × Hp) (h : f_Rolls_firstWrong sg  = some y) : Sm (d + 1) 31 [.ref 9] sg (some (.int y.1)) y.2 := by
  unfold f_Rolls_firstWrong at h
  refine Sm.of (lv := [(0, .ref 9)]) rfl ?_
  refine G_iconst (0 : Int32) rfl (by decide) ?_
  refine G_istore rfl rfl ?_
  exact Go.weak' (t_Rolls_firstWrong_2 d  _ _ _  _ h) ⟨rfl, rfl, trivial⟩
set_option maxRecDepth 100000 in
set_option maxHeartbeats 4000000 in
theorem t_Box_fault (d : Nat) (sg : Hp)   (y : Int32 × Hp) (h : f_Box_fault sg  = some y) : Sm (d + 2) 30 [.ref 0] sg (some (.int y.1)) y.2 := by
  unfold f_Box_fault at h
  refine Sm.of (lv := [(0, .ref 0)]) rfl ?_
  refine G_aload rfl rfl ?_
  refine G_getR (ci := 9) 9 rfl rfl rfl rfl rfl ?_
  obtain ⟨y1, hy1, h⟩ := Option.bind_eq_some_iff.mp h
  refine G_callvI 1 (t_Rolls_firstWrong _ _   _ hy1) rfl rfl rfl rfl rfl rfl rfl rfl rfl rfl rfl ?_
  cases h
  exact G_iret rfl rfl
set_option maxRecDepth 100000 in
set_option maxHeartbeats 4000000 in
theorem t_Mod_rollOf (d : Nat) (sg : Hp) (x0 : Int32)  (y : Int32 × Hp) (h : f_Mod_rollOf sg x0 = some y) : Sm (d + 0) 129 [.int x0] sg (some (.int y.1)) y.2 := by
  unfold f_Mod_rollOf at h
  refine Sm.of (lv := [(0, .int x0)]) rfl ?_
  refine G_iload rfl rfl ?_
  refine G_iconst (101 : Int32) rfl (by decide) ?_
  refine G_ic_ne 10 rfl rfl (fun hc => ?_) (fun hc => ?_)
  · rw [if_neg hc] at h
    refine G_iload rfl rfl ?_
    refine G_iconst (119 : Int32) rfl (by decide) ?_
    refine G_ic_ne 20 rfl rfl (fun hc => ?_) (fun hc => ?_)
    · rw [if_neg hc] at h
      refine G_iload rfl rfl ?_
      refine G_iconst (110 : Int32) rfl (by decide) ?_
      refine G_ic_ne 30 rfl rfl (fun hc => ?_) (fun hc => ?_)
      · rw [if_neg hc] at h
        refine G_iload rfl rfl ?_
        refine G_iconst (115 : Int32) rfl (by decide) ?_
        refine G_ic_ne 40 rfl rfl (fun hc => ?_) (fun hc => ?_)
        · rw [if_neg hc] at h
          refine G_iconst (-1 : Int32) rfl (by decide) ?_
          cases h
          exact G_iret rfl rfl
        · rw [if_pos hc] at h
          refine G_iconst (3 : Int32) rfl (by decide) ?_
          refine G_goto 41 rfl rfl ?_
          cases h
          exact G_iret rfl rfl
      · rw [if_pos hc] at h
        refine G_iconst (2 : Int32) rfl (by decide) ?_
        refine G_goto 41 rfl rfl ?_
        cases h
        exact G_iret rfl rfl
    · rw [if_pos hc] at h
      refine G_iconst (1 : Int32) rfl (by decide) ?_
      refine G_goto 41 rfl rfl ?_
      cases h
      exact G_iret rfl rfl
  · rw [if_pos hc] at h
    refine G_iconst (0 : Int32) rfl (by decide) ?_
    refine G_goto 41 rfl rfl ?_
    cases h
    exact G_iret rfl rfl
set_option maxRecDepth 100000 in
set_option maxHeartbeats 4000000 in
theorem t_Mod_fault_2 (d : Nat)   : ∀ (n : Nat) (sg : Hp) (x1 : Int32)  (y : Int32 × Hp), f_Mod_fault_2  n sg x1 = some y → Go (d + 1) none 128 2 [(0, .ref 46), (1, .int x1)] [] sg (some (.int y.1)) y.2 := by
  intro n
  induction n with
  | zero =>
    intro sg x1 y h
    rw [f_Mod_fault_2] at h
    cases h
  | succ n ih =>
    intro sg x1 y h
    rw [f_Mod_fault_2] at h
    refine G_iload rfl rfl ?_
    refine G_aload rfl rfl ?_
    refine G_getI (ci := 10) 9 rfl rfl rfl rfl rfl ?_
    refine G_ic_ge 37 rfl rfl (fun hc => ?_) (fun hc => ?_)
    · rw [if_pos hc] at h
      refine G_iconst (-1 : Int32) rfl (by decide) ?_
      cases h
      exact G_iret rfl rfl
    · rw [if_neg hc] at h
      refine G_iload rfl rfl ?_
      refine G_iconst (20 : Int32) rfl (by decide) ?_
      refine G_ic_eq 29 rfl rfl (fun hc => ?_) (fun hc => ?_)
      · rw [if_pos hc] at h
        refine G_iload rfl rfl ?_
        cases h
        exact G_iret rfl rfl
      · rw [if_neg hc] at h
        refine G_aload rfl rfl ?_
        refine G_getR (ci := 10) 54 rfl rfl rfl rfl rfl ?_
        refine G_iload rfl rfl ?_
        obtain ⟨hg1, h⟩ := if_some h
        refine G_iald rfl rfl rfl hg1 ?_
        obtain ⟨y2, hy2, h⟩ := Option.bind_eq_some_iff.mp h
        refine G_callsI 1 (t_Mod_rollOf _ _ _  _ hy2) rfl rfl rfl rfl rfl rfl rfl rfl rfl ?_
        refine G_iconst (-1 : Int32) rfl (by decide) ?_
        refine G_ic_ne 31 rfl rfl (fun hc => ?_) (fun hc => ?_)
        · rw [if_neg hc] at h
          refine G_iinc (1 : Int32) rfl (by decide) rfl rfl ?_
          refine G_goto 2 rfl rfl ?_
          exact Go.weak' (ih _ _  _ h) ⟨rfl, rfl, trivial⟩
        · rw [if_pos hc] at h
          refine G_iload rfl rfl ?_
          cases h
          exact G_iret rfl rfl
set_option maxRecDepth 100000 in
set_option maxHeartbeats 4000000 in
theorem t_Mod_fault (d : Nat) (sg : Hp)   (y : Int32 × Hp) (h : f_Mod_fault sg  = some y) : Sm (d + 1) 128 [.ref 46] sg (some (.int y.1)) y.2 := by
  unfold f_Mod_fault at h
  refine Sm.of (lv := [(0, .ref 46)]) rfl ?_
  refine G_iconst (0 : Int32) rfl (by decide) ?_
  refine G_istore rfl rfl ?_
  exact Go.weak' (t_Mod_fault_2 d  _ _ _  _ h) ⟨rfl, rfl, trivial⟩
set_option maxRecDepth 100000 in
set_option maxHeartbeats 4000000 in
theorem t_Box_isWall (d : Nat) (sg : Hp) (x0 : Int32)  (y : Int32 × Hp) (h : f_Box_isWall sg x0 = some y) : Sm (d + 0) 34 [.int x0] sg (some (.int y.1)) y.2 := by
  unfold f_Box_isWall at h
  refine Sm.of (lv := [(0, .int x0)]) rfl ?_
  refine G_iload rfl rfl ?_
  refine G_if_lt 14 rfl rfl (fun hc => ?_) (fun hc => ?_)
  · rw [if_pos hc] at h
    refine G_iconst (0 : Int32) rfl (by decide) ?_
    cases h
    exact G_iret rfl rfl
  · rw [if_neg hc] at h
    refine G_iload rfl rfl ?_
    refine G_iconst (6 : Int32) rfl (by decide) ?_
    refine G_ic_ge 14 rfl rfl (fun hc => ?_) (fun hc => ?_)
    · rw [if_pos hc] at h
      refine G_iconst (0 : Int32) rfl (by decide) ?_
      cases h
      exact G_iret rfl rfl
    · rw [if_neg hc] at h
      refine G_iconst (1 : Int32) rfl (by decide) ?_
      refine G_goto 15 rfl rfl ?_
      cases h
      exact G_iret rfl rfl
set_option maxRecDepth 100000 in
set_option maxHeartbeats 4000000 in
theorem t_Room_isBarred (d : Nat) (sg : Hp) (x1 : Int32) (x2 : Int32)  (y : Int32 × Hp) (h : f_Room_isBarred sg x1 x2 = some y) : Sm (d + 0) 35 [.ref 1, .int x1, .int x2] sg (some (.int y.1)) y.2 := by
  unfold f_Room_isBarred at h
  refine Sm.of (lv := [(0, .ref 1), (1, .int x1), (2, .int x2)]) rfl ?_
  refine G_aload rfl rfl ?_
  refine G_getR (ci := 2) 6 rfl rfl rfl rfl rfl ?_
  refine G_iload rfl rfl ?_
  obtain ⟨hg1, h⟩ := if_some h
  refine G_iald rfl rfl rfl hg1 ?_
  refine G_iload rfl rfl ?_
  refine G_ishr rfl ?_
  refine G_iconst (1 : Int32) rfl (by decide) ?_
  refine G_iand rfl ?_
  refine G_iconst (1 : Int32) rfl (by decide) ?_
  refine G_ic_ne 18 rfl rfl (fun hc => ?_) (fun hc => ?_)
  · rw [if_neg hc] at h
    refine G_iconst (0 : Int32) rfl (by decide) ?_
    cases h
    exact G_iret rfl rfl
  · rw [if_pos hc] at h
    refine G_iconst (1 : Int32) rfl (by decide) ?_
    refine G_goto 19 rfl rfl ?_
    cases h
    exact G_iret rfl rfl
set_option maxRecDepth 100000 in
set_option maxHeartbeats 4000000 in
theorem t_Room_setBar_59 (d : Nat)   (sg : Hp)   (y : Hp) (h : f_Room_setBar_59  sg  = some y) : Go (d + 0) none 36 59 [(0, .ref 1)] [] sg none y := by
  unfold f_Room_setBar_59 at h
  refine G_aload rfl rfl ?_
  refine G_dupr rfl ?_
  refine G_getI (ci := 2) 6 rfl rfl rfl rfl rfl ?_
  refine G_iconst (1 : Int32) rfl (by decide) ?_
  refine G_iadd rfl ?_
  refine G_putI (ci := 2) 6 rfl rfl rfl rfl rfl ?_
  cases h
  exact G_vret rfl rfl
set_option maxRecDepth 100000 in
set_option maxHeartbeats 4000000 in
theorem t_Room_setBar (d : Nat) (sg : Hp) (x1 : Int32) (x2 : Int32) (x3 : Int32)  (y : Hp) (h : f_Room_setBar sg x1 x2 x3 = some y) : Sm (d + 0) 36 [.ref 1, .int x1, .int x2, .int x3] sg none y := by
  unfold f_Room_setBar at h
  refine Sm.of (lv := [(0, .ref 1), (1, .int x1), (2, .int x2), (3, .int x3)]) rfl ?_
  refine G_iload rfl rfl ?_
  refine G_if_eq 31 rfl rfl (fun hc => ?_) (fun hc => ?_)
  · rw [if_pos hc] at h
    refine G_aload rfl rfl ?_
    refine G_getR (ci := 2) 6 rfl rfl rfl rfl rfl ?_
    refine G_iload rfl rfl ?_
    refine G_dup2 rfl ?_
    obtain ⟨hg1, h⟩ := if_some h
    refine G_iald rfl rfl rfl hg1 ?_
    refine G_iconst (1 : Int32) rfl (by decide) ?_
    refine G_iload rfl rfl ?_
    refine G_ishl rfl ?_
    refine G_iconst (-1 : Int32) rfl (by decide) ?_
    refine G_ixor rfl ?_
    refine G_iand rfl ?_
    obtain ⟨hg2, h⟩ := if_some h
    refine G_iast rfl rfl rfl hg2 ?_
    refine G_aload rfl rfl ?_
    refine G_getR (ci := 2) 6 rfl rfl rfl rfl rfl ?_
    refine G_iload rfl rfl ?_
    refine G_dup2 rfl ?_
    obtain ⟨hg3, h⟩ := if_some h
    refine G_iald rfl rfl rfl hg3 ?_
    refine G_iconst (1 : Int32) rfl (by decide) ?_
    refine G_iload rfl rfl ?_
    refine G_ishl rfl ?_
    refine G_iconst (-1 : Int32) rfl (by decide) ?_
    refine G_ixor rfl ?_
    refine G_iand rfl ?_
    obtain ⟨hg4, h⟩ := if_some h
    refine G_iast rfl rfl rfl hg4 ?_
    exact Go.weak' (t_Room_setBar_59 d  _   _ h) ⟨rfl, trivial⟩
  · rw [if_neg hc] at h
    refine G_aload rfl rfl ?_
    refine G_getR (ci := 2) 6 rfl rfl rfl rfl rfl ?_
    refine G_iload rfl rfl ?_
    refine G_dup2 rfl ?_
    obtain ⟨hg5, h⟩ := if_some h
    refine G_iald rfl rfl rfl hg5 ?_
    refine G_iconst (1 : Int32) rfl (by decide) ?_
    refine G_iload rfl rfl ?_
    refine G_ishl rfl ?_
    refine G_ior rfl ?_
    obtain ⟨hg6, h⟩ := if_some h
    refine G_iast rfl rfl rfl hg6 ?_
    refine G_aload rfl rfl ?_
    refine G_getR (ci := 2) 6 rfl rfl rfl rfl rfl ?_
    refine G_iload rfl rfl ?_
    refine G_dup2 rfl ?_
    obtain ⟨hg7, h⟩ := if_some h
    refine G_iald rfl rfl rfl hg7 ?_
    refine G_iconst (1 : Int32) rfl (by decide) ?_
    refine G_iload rfl rfl ?_
    refine G_ishl rfl ?_
    refine G_ior rfl ?_
    obtain ⟨hg8, h⟩ := if_some h
    refine G_iast rfl rfl rfl hg8 ?_
    refine G_goto 59 rfl rfl ?_
    exact Go.weak' (t_Room_setBar_59 d  _   _ h) ⟨rfl, trivial⟩
set_option maxRecDepth 100000 in
set_option maxHeartbeats 4000000 in
theorem t_Box_bar_70 (d : Nat)   (sg : Hp) (x4 : Int32) (xs1 : Int32) (xs2 : Int32) (xs3 : Int32)  (y : Int32 × Hp) (h : f_Box_bar_70  sg x4 xs1 xs2 xs3 = some y) : Go (d + 1) none 33 70 [(4, .int x4)] [.ref 1, .int xs1, .int xs2, .int xs3] sg (some (.int y.1)) y.2 := by
  unfold f_Box_bar_70 at h
  obtain ⟨y4, hy4, h⟩ := Option.bind_eq_some_iff.mp h
  refine G_callvV 4 (t_Room_setBar _ _ _ _ _  _ hy4) rfl rfl rfl rfl rfl rfl rfl rfl rfl rfl rfl ?_
  refine G_iload rfl rfl ?_
  cases h
  exact G_iret rfl rfl
set_option maxRecDepth 100000 in
set_option maxHeartbeats 4000000 in
theorem t_Box_bar_52 (d : Nat)   (sg : Hp) (x1 : Int32) (x2 : Int32) (x3 : Int32) (xs0 : Int32)  (y : Int32 × Hp) (h : f_Box_bar_52  sg x1 x2 x3 xs0 = some y) : Go (d + 1) none 33 52 [(0, .ref 0), (1, .int x1), (2, .int x2), (3, .int x3)] [.int xs0] sg (some (.int y.1)) y.2 := by
  unfold f_Box_bar_52 at h
  refine G_istore rfl rfl ?_
  refine G_aload rfl rfl ?_
  refine G_getR (ci := 9) 1 rfl rfl rfl rfl rfl ?_
  refine G_iload rfl rfl ?_
  refine G_iload rfl rfl ?_
  refine G_iload rfl rfl ?_
  refine G_iconst (1 : Int32) rfl (by decide) ?_
  refine G_ic_ne 69 rfl rfl (fun hc => ?_) (fun hc => ?_)
  · rw [if_neg hc] at h
    refine G_iconst (0 : Int32) rfl (by decide) ?_
    exact Go.weak' (t_Box_bar_70 d  _ _ _ _ _  _ h) ⟨rfl, trivial⟩
  · rw [if_pos hc] at h
    refine G_iconst (1 : Int32) rfl (by decide) ?_
    refine G_goto 70 rfl rfl ?_
    exact Go.weak' (t_Box_bar_70 d  _ _ _ _ _  _ h) ⟨rfl, trivial⟩
set_option maxRecDepth 100000 in
set_option maxHeartbeats 4000000 in
theorem t_Box_bar (d : Nat) (sg : Hp) (x1 : Int32) (x2 : Int32) (x3 : Int32)  (y : Int32 × Hp) (h : f_Box_bar sg x1 x2 x3 = some y) : Sm (d + 1) 33 [.ref 0, .int x1, .int x2, .int x3] sg (some (.int y.1)) y.2 := by
  unfold f_Box_bar at h
  refine Sm.of (lv := [(0, .ref 0), (1, .int x1), (2, .int x2), (3, .int x3)]) rfl ?_
  refine G_iload rfl rfl ?_
  obtain ⟨y1, hy1, h⟩ := Option.bind_eq_some_iff.mp h
  refine G_callsI 1 (t_Box_isWall _ _ _  _ hy1) rfl rfl rfl rfl rfl rfl rfl rfl rfl ?_
  refine G_if_eq 32 rfl rfl (fun hc => ?_) (fun hc => ?_)
  · rw [if_pos hc] at h
    refine G_iconst (-2 : Int32) rfl (by decide) ?_
    cases h
    exact G_iret rfl rfl
  · rw [if_neg hc] at h
    refine G_iload rfl rfl ?_
    obtain ⟨y2, hy2, h⟩ := Option.bind_eq_some_iff.mp h
    refine G_callsI 1 (t_Box_isWall _ _ _  _ hy2) rfl rfl rfl rfl rfl rfl rfl rfl rfl ?_
    refine G_if_eq 32 rfl rfl (fun hc => ?_) (fun hc => ?_)
    · rw [if_pos hc] at h
      refine G_iconst (-2 : Int32) rfl (by decide) ?_
      cases h
      exact G_iret rfl rfl
    · rw [if_neg hc] at h
      refine G_iload rfl rfl ?_
      refine G_iconst (1 : Int32) rfl (by decide) ?_
      refine G_ishr rfl ?_
      refine G_iload rfl rfl ?_
      refine G_iconst (1 : Int32) rfl (by decide) ?_
      refine G_ishr rfl ?_
      refine G_ic_eq 32 rfl rfl (fun hc => ?_) (fun hc => ?_)
      · rw [if_pos hc] at h
        refine G_iconst (-2 : Int32) rfl (by decide) ?_
        cases h
        exact G_iret rfl rfl
      · rw [if_neg hc] at h
        refine G_iload rfl rfl ?_
        refine G_if_lt 32 rfl rfl (fun hc => ?_) (fun hc => ?_)
        · rw [if_pos hc] at h
          refine G_iconst (-2 : Int32) rfl (by decide) ?_
          cases h
          exact G_iret rfl rfl
        · rw [if_neg hc] at h
          refine G_iload rfl rfl ?_
          refine G_iconst (1 : Int32) rfl (by decide) ?_
          refine G_ic_le 35 rfl rfl (fun hc => ?_) (fun hc => ?_)
          · rw [if_pos hc] at h
            refine G_aload rfl rfl ?_
            refine G_getR (ci := 9) 1 rfl rfl rfl rfl rfl ?_
            refine G_iload rfl rfl ?_
            refine G_iload rfl rfl ?_
            obtain ⟨y3, hy3, h⟩ := Option.bind_eq_some_iff.mp h
            refine G_callvI 3 (t_Room_isBarred _ _ _ _  _ hy3) rfl rfl rfl rfl rfl rfl rfl rfl rfl rfl rfl ?_
            refine G_if_eq 51 rfl rfl (fun hc => ?_) (fun hc => ?_)
            · rw [if_pos hc] at h
              refine G_iconst (0 : Int32) rfl (by decide) ?_
              exact Go.weak' (t_Box_bar_52 d  _ _ _ _ _  _ h) ⟨rfl, rfl, rfl, rfl, trivial⟩
            · rw [if_neg hc] at h
              refine G_iconst (1 : Int32) rfl (by decide) ?_
              refine G_goto 52 rfl rfl ?_
              exact Go.weak' (t_Box_bar_52 d  _ _ _ _ _  _ h) ⟨rfl, rfl, rfl, rfl, trivial⟩
          · rw [if_neg hc] at h
            refine G_iconst (-2 : Int32) rfl (by decide) ?_
            cases h
            exact G_iret rfl rfl
set_option maxRecDepth 100000 in
set_option maxHeartbeats 4000000 in
theorem t_Mod_isFace (d : Nat) (sg : Hp) (x0 : Int32)  (y : Int32 × Hp) (h : f_Mod_isFace sg x0 = some y) : Sm (d + 1) 123 [.int x0] sg (some (.int y.1)) y.2 := by
  unfold f_Mod_isFace at h
  refine Sm.of (lv := [(0, .int x0)]) rfl ?_
  refine G_iload rfl rfl ?_
  refine G_i2l rfl ?_
  refine G_lconst (0 : Int64) rfl (by decide) ?_
  refine G_ldc2 (5 : Int64) rfl (by decide) ?_
  obtain ⟨y1, hy1, h⟩ := Option.bind_eq_some_iff.mp h
  refine G_callsI 3 (t_Mod_in _ _ _ _ _  _ hy1) rfl rfl rfl rfl rfl rfl rfl rfl rfl ?_
  obtain ⟨hz, h⟩ := if_some h
  cases h
  exact G_iret rfl (retZ_b rfl hz)
set_option maxRecDepth 100000 in
set_option maxHeartbeats 4000000 in
theorem t_Mod_isTwo (d : Nat) (sg : Hp) (x0 : Int32)  (y : Int32 × Hp) (h : f_Mod_isTwo sg x0 = some y) : Sm (d + 1) 124 [.int x0] sg (some (.int y.1)) y.2 := by
  unfold f_Mod_isTwo at h
  refine Sm.of (lv := [(0, .int x0)]) rfl ?_
  refine G_iload rfl rfl ?_
  refine G_i2l rfl ?_
  refine G_lconst (0 : Int64) rfl (by decide) ?_
  refine G_lconst (1 : Int64) rfl (by decide) ?_
  obtain ⟨y1, hy1, h⟩ := Option.bind_eq_some_iff.mp h
  refine G_callsI 3 (t_Mod_in _ _ _ _ _  _ hy1) rfl rfl rfl rfl rfl rfl rfl rfl rfl ?_
  obtain ⟨hz, h⟩ := if_some h
  cases h
  exact G_iret rfl (retZ_b rfl hz)
set_option maxRecDepth 100000 in
set_option maxHeartbeats 4000000 in
theorem t_Mod_bar (d : Nat) (sg : Hp) (x1 : Int32) (x2 : Int32) (x3 : Int32)  (y : Int32 × Hp) (h : f_Mod_bar sg x1 x2 x3 = some y) : Sm (d + 2) 122 [.ref 46, .int x1, .int x2, .int x3] sg (some (.int y.1)) y.2 := by
  unfold f_Mod_bar at h
  refine Sm.of (lv := [(0, .ref 46), (1, .int x1), (2, .int x2), (3, .int x3)]) rfl ?_
  refine G_iload rfl rfl ?_
  obtain ⟨y1, hy1, h⟩ := Option.bind_eq_some_iff.mp h
  refine G_callsI 1 (t_Mod_isFace _ _ _  _ hy1) rfl rfl rfl rfl rfl rfl rfl rfl rfl ?_
  refine G_if_eq 30 rfl rfl (fun hc => ?_) (fun hc => ?_)
  · rw [if_pos hc] at h
    refine G_iconst (-2 : Int32) rfl (by decide) ?_
    cases h
    exact G_iret rfl rfl
  · rw [if_neg hc] at h
    refine G_iload rfl rfl ?_
    obtain ⟨y2, hy2, h⟩ := Option.bind_eq_some_iff.mp h
    refine G_callsI 1 (t_Mod_isFace _ _ _  _ hy2) rfl rfl rfl rfl rfl rfl rfl rfl rfl ?_
    refine G_if_eq 30 rfl rfl (fun hc => ?_) (fun hc => ?_)
    · rw [if_pos hc] at h
      refine G_iconst (-2 : Int32) rfl (by decide) ?_
      cases h
      exact G_iret rfl rfl
    · rw [if_neg hc] at h
      refine G_iload rfl rfl ?_
      refine G_iconst (2 : Int32) rfl (by decide) ?_
      refine G_idiv rfl (by decide) ?_
      refine G_iload rfl rfl ?_
      refine G_iconst (2 : Int32) rfl (by decide) ?_
      refine G_idiv rfl (by decide) ?_
      refine G_ic_eq 30 rfl rfl (fun hc => ?_) (fun hc => ?_)
      · rw [if_pos hc] at h
        refine G_iconst (-2 : Int32) rfl (by decide) ?_
        cases h
        exact G_iret rfl rfl
      · rw [if_neg hc] at h
        refine G_iload rfl rfl ?_
        obtain ⟨y3, hy3, h⟩ := Option.bind_eq_some_iff.mp h
        refine G_callsI 1 (t_Mod_isTwo _ _ _  _ hy3) rfl rfl rfl rfl rfl rfl rfl rfl rfl ?_
        refine G_if_ne 33 rfl rfl (fun hc => ?_) (fun hc => ?_)
        · rw [if_neg hc] at h
          refine G_aload rfl rfl ?_
          refine G_getR (ci := 10) 53 rfl rfl rfl rfl rfl ?_
          refine G_iload rfl rfl ?_
          obtain ⟨hg4, h⟩ := if_some h
          refine G_iald rfl rfl rfl hg4 ?_
          refine G_iload rfl rfl ?_
          refine G_ishr rfl ?_
          refine G_iconst (1 : Int32) rfl (by decide) ?_
          refine G_iand rfl ?_
          refine G_istore rfl rfl ?_
          refine G_aload rfl rfl ?_
          refine G_getR (ci := 10) 53 rfl rfl rfl rfl rfl ?_
          refine G_iload rfl rfl ?_
          refine G_aload rfl rfl ?_
          refine G_getR (ci := 10) 53 rfl rfl rfl rfl rfl ?_
          refine G_iload rfl rfl ?_
          obtain ⟨hg5, h⟩ := if_some h
          refine G_iald rfl rfl rfl hg5 ?_
          refine G_iconst (1 : Int32) rfl (by decide) ?_
          refine G_iload rfl rfl ?_
          refine G_ishl rfl ?_
          refine G_iconst (-1 : Int32) rfl (by decide) ?_
          refine G_ixor rfl ?_
          refine G_iand rfl ?_
          refine G_iload rfl rfl ?_
          refine G_iload rfl rfl ?_
          refine G_ishl rfl ?_
          refine G_ior rfl ?_
          obtain ⟨hg6, h⟩ := if_some h
          refine G_iast rfl rfl rfl hg6 ?_
          refine G_aload rfl rfl ?_
          refine G_getR (ci := 10) 53 rfl rfl rfl rfl rfl ?_
          refine G_iload rfl rfl ?_
          refine G_aload rfl rfl ?_
          refine G_getR (ci := 10) 53 rfl rfl rfl rfl rfl ?_
          refine G_iload rfl rfl ?_
          obtain ⟨hg7, h⟩ := if_some h
          refine G_iald rfl rfl rfl hg7 ?_
          refine G_iconst (1 : Int32) rfl (by decide) ?_
          refine G_iload rfl rfl ?_
          refine G_ishl rfl ?_
          refine G_iconst (-1 : Int32) rfl (by decide) ?_
          refine G_ixor rfl ?_
          refine G_iand rfl ?_
          refine G_iload rfl rfl ?_
          refine G_iload rfl rfl ?_
          refine G_ishl rfl ?_
          refine G_ior rfl ?_
          obtain ⟨hg8, h⟩ := if_some h
          refine G_iast rfl rfl rfl hg8 ?_
          refine G_iload rfl rfl ?_
          cases h
          exact G_iret rfl rfl
        · rw [if_pos hc] at h
          refine G_iconst (-2 : Int32) rfl (by decide) ?_
          cases h
          exact G_iret rfl rfl
set_option maxRecDepth 100000 in
set_option maxHeartbeats 4000000 in
theorem t_Rolls_valid (d : Nat) (sg : Hp)   (y : Int32 × Hp) (h : f_Rolls_valid sg  = some y) : Sm (d + 2) 38 [.ref 9] sg (some (.int y.1)) y.2 := by
  unfold f_Rolls_valid at h
  refine Sm.of (lv := [(0, .ref 9)]) rfl ?_
  refine G_aload rfl rfl ?_
  obtain ⟨y1, hy1, h⟩ := Option.bind_eq_some_iff.mp h
  refine G_callvI 1 (t_Rolls_firstWrong _ _   _ hy1) rfl rfl rfl rfl rfl rfl rfl rfl rfl rfl rfl ?_
  refine G_iconst (-1 : Int32) rfl (by decide) ?_
  refine G_ic_ne 15 rfl rfl (fun hc => ?_) (fun hc => ?_)
  · rw [if_neg hc] at h
    refine G_iconst (0 : Int32) rfl (by decide) ?_
    cases h
    exact G_iret rfl rfl
  · rw [if_pos hc] at h
    refine G_aload rfl rfl ?_
    refine G_getI (ci := 1) 1 rfl rfl rfl rfl rfl ?_
    refine G_goto 16 rfl rfl ?_
    cases h
    exact G_iret rfl rfl
set_option maxRecDepth 100000 in
set_option maxHeartbeats 4000000 in
theorem t_Stand_start_33 (d : Nat)   (sg : Hp) (a0 : Nat) (a2 : Nat) (as0 : Nat) (xs1 : Int32) (h0 : clsOf a0 = 6) (h2 : clsOf a2 = 20) (g2 : lenOf a2 = 3) (hs0 : clsOf as0 = 6) (y : Hp) (h : f_Stand_start_33  sg a0 a2 as0 xs1 = some y) : Go (d + 0) none 40 33 [(0, .ref a0), (2, .ref a2)] [.ref as0, .int xs1] sg none y := by
  unfold f_Stand_start_33 at h
  refine G_putI (ci := 6) 2 rfl hs0 rfl rfl rfl ?_
  refine G_aload rfl rfl ?_
  refine G_iconst (0 : Int32) rfl (by decide) ?_
  refine G_putI (ci := 6) 3 rfl h0 rfl rfl rfl ?_
  refine G_aload rfl rfl ?_
  refine G_iconst (0 : Int32) rfl (by decide) ?_
  refine G_putI (ci := 6) 4 rfl h0 rfl rfl rfl ?_
  refine G_aload rfl rfl ?_
  refine G_aload rfl rfl ?_
  refine G_aload rfl rfl ?_
  refine G_getI (ci := 6) 1 rfl h0 rfl rfl rfl ?_
  refine G_iconst (1 : Int32) rfl (by decide) ?_
  refine G_ishr rfl ?_
  obtain ⟨hg1, h⟩ := if_some h
  refine G_iald rfl h2 g2 hg1 ?_
  refine G_putI (ci := 6) 5 rfl h0 rfl rfl rfl ?_
  refine G_aload rfl rfl ?_
  refine G_aload rfl rfl ?_
  refine G_aload rfl rfl ?_
  refine G_getI (ci := 6) 2 rfl h0 rfl rfl rfl ?_
  refine G_iconst (1 : Int32) rfl (by decide) ?_
  refine G_ishr rfl ?_
  obtain ⟨hg2, h⟩ := if_some h
  refine G_iald rfl h2 g2 hg2 ?_
  refine G_putI (ci := 6) 6 rfl h0 rfl rfl rfl ?_
  refine G_aload rfl rfl ?_
  refine G_aload rfl rfl ?_
  refine G_aload rfl rfl ?_
  refine G_getI (ci := 6) 0 rfl h0 rfl rfl rfl ?_
  refine G_iconst (1 : Int32) rfl (by decide) ?_
  refine G_ishr rfl ?_
  obtain ⟨hg3, h⟩ := if_some h
  refine G_iald rfl h2 g2 hg3 ?_
  refine G_putI (ci := 6) 7 rfl h0 rfl rfl rfl ?_
  cases h
  exact G_vret rfl rfl
set_option maxRecDepth 100000 in
set_option maxHeartbeats 4000000 in
theorem t_Stand_start_18 (d : Nat)   (sg : Hp) (a0 : Nat) (x1 : Int32) (a2 : Nat) (as0 : Nat) (xs1 : Int32) (h0 : clsOf a0 = 6) (h2 : clsOf a2 = 20) (g2 : lenOf a2 = 3) (hs0 : clsOf as0 = 6) (y : Hp) (h : f_Stand_start_18  sg a0 x1 a2 as0 xs1 = some y) : Go (d + 0) none 40 18 [(0, .ref a0), (1, .int x1), (2, .ref a2)] [.ref as0, .int xs1] sg none y := by
  unfold f_Stand_start_18 at h
  refine G_putI (ci := 6) 1 rfl hs0 rfl rfl rfl ?_
  refine G_aload rfl rfl ?_
  refine G_iload rfl rfl ?_
  refine G_iconst (1 : Int32) rfl (by decide) ?_
  refine G_ishr rfl ?_
  refine G_if_ne 32 rfl rfl (fun hc => ?_) (fun hc => ?_)
  · rw [if_neg hc] at h
    refine G_iconst (1 : Int32) rfl (by decide) ?_
    exact Go.weak' (t_Stand_start_33 d  _ _ _ _ _ h0 h2 g2 h0 _ h) ⟨rfl, rfl, trivial⟩
  · rw [if_pos hc] at h
    refine G_iconst (5 : Int32) rfl (by decide) ?_
    refine G_goto 33 rfl rfl ?_
    exact Go.weak' (t_Stand_start_33 d  _ _ _ _ _ h0 h2 g2 h0 _ h) ⟨rfl, rfl, trivial⟩
set_option maxRecDepth 100000 in
set_option maxHeartbeats 4000000 in
theorem t_Stand_start (d : Nat) (sg : Hp) (a0 : Nat) (x1 : Int32) (a2 : Nat) (h0 : clsOf a0 = 6) (h2 : clsOf a2 = 20) (g2 : lenOf a2 = 3) (y : Hp) (h : f_Stand_start sg a0 x1 a2 = some y) : Sm (d + 0) 40 [.ref a0, .int x1, .ref a2] sg none y := by
  unfold f_Stand_start at h
  refine Sm.of (lv := [(0, .ref a0), (1, .int x1), (2, .ref a2)]) rfl ?_
  refine G_aload rfl rfl ?_
  refine G_iload rfl rfl ?_
  refine G_putI (ci := 6) 0 rfl h0 rfl rfl rfl ?_
  refine G_aload rfl rfl ?_
  refine G_iload rfl rfl ?_
  refine G_iconst (1 : Int32) rfl (by decide) ?_
  refine G_ishr rfl ?_
  refine G_iconst (1 : Int32) rfl (by decide) ?_
  refine G_ic_ne 17 rfl rfl (fun hc => ?_) (fun hc => ?_)
  · rw [if_neg hc] at h
    refine G_iconst (3 : Int32) rfl (by decide) ?_
    exact Go.weak' (t_Stand_start_18 d  _ _ _ _ _ _ h0 h2 g2 h0 _ h) ⟨rfl, rfl, rfl, trivial⟩
  · rw [if_pos hc] at h
    refine G_iconst (5 : Int32) rfl (by decide) ?_
    refine G_goto 18 rfl rfl ?_
    exact Go.weak' (t_Stand_start_18 d  _ _ _ _ _ _ h0 h2 g2 h0 _ h) ⟨rfl, rfl, rfl, trivial⟩
end
