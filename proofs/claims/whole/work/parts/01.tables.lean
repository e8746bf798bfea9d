/-- a private method of a class that the tables say can be made, by its rows of tables_1 -/
def lw_okq (q : MethodName × Nat) : Prop := (q.1.cls ≠ "java/lang/invoke/MethodHandle" ∧ q.1.cls ≠ "java/lang/invoke/VarHandle") ∧ Cond.instantiable q.1.cls q.2 ∈ tables_1 ∧ Cond.privateMethod q.1 ∈ tables_1 ∧ Cond.instanceMethod q.1 ∈ tables_1
theorem lw_p0 : lw_okq (⟨"SomebodyWill", "shelfAt", "(I)LSomebodyWill$Shelf;"⟩, 8) := ⟨⟨by decide +kernel, by decide +kernel⟩, List.mem_of_getElem? (i := 17) (by decide +kernel), List.mem_of_getElem? (i := 238) (by decide +kernel), List.mem_of_getElem? (i := 239) (by decide +kernel)⟩
theorem lw_p1 : lw_okq (⟨"SomebodyWill", "refuse", "(I)I"⟩, 8) := ⟨⟨by decide +kernel, by decide +kernel⟩, List.mem_of_getElem? (i := 17) (by decide +kernel), List.mem_of_getElem? (i := 245) (by decide +kernel), List.mem_of_getElem? (i := 246) (by decide +kernel)⟩
theorem lw_p2 : lw_okq (⟨"SomebodyWill$Shelf", "putRow", "(II)V"⟩, 4) := ⟨⟨by decide +kernel, by decide +kernel⟩, List.mem_of_getElem? (i := 187) (by decide +kernel), List.mem_of_getElem? (i := 249) (by decide +kernel), List.mem_of_getElem? (i := 250) (by decide +kernel)⟩
theorem lw_p3 : lw_okq (⟨"SomebodyWill$Shelf", "isWay", "()Z"⟩, 4) := ⟨⟨by decide +kernel, by decide +kernel⟩, List.mem_of_getElem? (i := 187) (by decide +kernel), List.mem_of_getElem? (i := 260) (by decide +kernel), List.mem_of_getElem? (i := 261) (by decide +kernel)⟩
theorem lw_p4 : lw_okq (⟨"SomebodyWill$Shelf", "isRow", "()Z"⟩, 4) := ⟨⟨by decide +kernel, by decide +kernel⟩, List.mem_of_getElem? (i := 187) (by decide +kernel), List.mem_of_getElem? (i := 264) (by decide +kernel), List.mem_of_getElem? (i := 265) (by decide +kernel)⟩
theorem lw_p5 : lw_okq (⟨"SomebodyWill$Shelf", "hasPlaces", "(II)Z"⟩, 4) := ⟨⟨by decide +kernel, by decide +kernel⟩, List.mem_of_getElem? (i := 187) (by decide +kernel), List.mem_of_getElem? (i := 268) (by decide +kernel), List.mem_of_getElem? (i := 269) (by decide +kernel)⟩
theorem lw_p6 : lw_okq (⟨"SomebodyWill$Shelf", "put", "(IJ)V"⟩, 4) := ⟨⟨by decide +kernel, by decide +kernel⟩, List.mem_of_getElem? (i := 187) (by decide +kernel), List.mem_of_getElem? (i := 272) (by decide +kernel), List.mem_of_getElem? (i := 273) (by decide +kernel)⟩
theorem lw_p7 : lw_okq (⟨"SomebodyWill$Shelf", "told", "(I)J"⟩, 4) := ⟨⟨by decide +kernel, by decide +kernel⟩, List.mem_of_getElem? (i := 187) (by decide +kernel), List.mem_of_getElem? (i := 287) (by decide +kernel), List.mem_of_getElem? (i := 288) (by decide +kernel)⟩
theorem lw_p8 : lw_okq (⟨"SomebodyWill$Shelf", "putWay", "(II)V"⟩, 4) := ⟨⟨by decide +kernel, by decide +kernel⟩, List.mem_of_getElem? (i := 187) (by decide +kernel), List.mem_of_getElem? (i := 304) (by decide +kernel), List.mem_of_getElem? (i := 305) (by decide +kernel)⟩
theorem lw_p9 : lw_okq (⟨"SomebodyWill$Shelf", "toldSet", "()I"⟩, 4) := ⟨⟨by decide +kernel, by decide +kernel⟩, List.mem_of_getElem? (i := 187) (by decide +kernel), List.mem_of_getElem? (i := 308) (by decide +kernel), List.mem_of_getElem? (i := 309) (by decide +kernel)⟩
theorem lw_p10 : lw_okq (⟨"SomebodyWill$Shelf", "isOfKind", "(I)Z"⟩, 4) := ⟨⟨by decide +kernel, by decide +kernel⟩, List.mem_of_getElem? (i := 187) (by decide +kernel), List.mem_of_getElem? (i := 317) (by decide +kernel), List.mem_of_getElem? (i := 318) (by decide +kernel)⟩
theorem lw_p11 : lw_okq (⟨"SomebodyWill$Shelf", "wayKind", "()I"⟩, 4) := ⟨⟨by decide +kernel, by decide +kernel⟩, List.mem_of_getElem? (i := 187) (by decide +kernel), List.mem_of_getElem? (i := 321) (by decide +kernel), List.mem_of_getElem? (i := 322) (by decide +kernel)⟩
theorem lw_p12 : lw_okq (⟨"SomebodyWill$Shelf", "saidAs", "(I)I"⟩, 4) := ⟨⟨by decide +kernel, by decide +kernel⟩, List.mem_of_getElem? (i := 187) (by decide +kernel), List.mem_of_getElem? (i := 325) (by decide +kernel), List.mem_of_getElem? (i := 326) (by decide +kernel)⟩
theorem lw_p13 : lw_okq (⟨"SomebodyWill$Reader", "append", "(I)V"⟩, 6) := ⟨⟨by decide +kernel, by decide +kernel⟩, List.mem_of_getElem? (i := 27) (by decide +kernel), List.mem_of_getElem? (i := 333) (by decide +kernel), List.mem_of_getElem? (i := 334) (by decide +kernel)⟩
theorem lw_p14 : lw_okq (⟨"SomebodyWill$Reader", "empty", "()V"⟩, 6) := ⟨⟨by decide +kernel, by decide +kernel⟩, List.mem_of_getElem? (i := 27) (by decide +kernel), List.mem_of_getElem? (i := 341) (by decide +kernel), List.mem_of_getElem? (i := 342) (by decide +kernel)⟩
theorem lw_p15 : lw_okq (⟨"SomebodyWill$Town", "placeForNext", "()LSomebodyWill$Street;"⟩, 5) := ⟨⟨by decide +kernel, by decide +kernel⟩, List.mem_of_getElem? (i := 55) (by decide +kernel), List.mem_of_getElem? (i := 349) (by decide +kernel), List.mem_of_getElem? (i := 350) (by decide +kernel)⟩
def lw_privs_1 : List (MethodName × Nat) := [(⟨"SomebodyWill", "shelfAt", "(I)LSomebodyWill$Shelf;"⟩, 8), (⟨"SomebodyWill", "refuse", "(I)I"⟩, 8), (⟨"SomebodyWill$Shelf", "putRow", "(II)V"⟩, 4), (⟨"SomebodyWill$Shelf", "isWay", "()Z"⟩, 4), (⟨"SomebodyWill$Shelf", "isRow", "()Z"⟩, 4), (⟨"SomebodyWill$Shelf", "hasPlaces", "(II)Z"⟩, 4), (⟨"SomebodyWill$Shelf", "put", "(IJ)V"⟩, 4), (⟨"SomebodyWill$Shelf", "told", "(I)J"⟩, 4), (⟨"SomebodyWill$Shelf", "putWay", "(II)V"⟩, 4), (⟨"SomebodyWill$Shelf", "toldSet", "()I"⟩, 4), (⟨"SomebodyWill$Shelf", "isOfKind", "(I)Z"⟩, 4), (⟨"SomebodyWill$Shelf", "wayKind", "()I"⟩, 4), (⟨"SomebodyWill$Shelf", "saidAs", "(I)I"⟩, 4), (⟨"SomebodyWill$Reader", "append", "(I)V"⟩, 6), (⟨"SomebodyWill$Reader", "empty", "()V"⟩, 6), (⟨"SomebodyWill$Town", "placeForNext", "()LSomebodyWill$Street;"⟩, 5)]
theorem lw_r1 : ∀ q ∈ lw_privs_1, lw_okq q := List.forall_mem_cons.mpr ⟨lw_p0, List.forall_mem_cons.mpr ⟨lw_p1, List.forall_mem_cons.mpr ⟨lw_p2, List.forall_mem_cons.mpr ⟨lw_p3, List.forall_mem_cons.mpr ⟨lw_p4, List.forall_mem_cons.mpr ⟨lw_p5, List.forall_mem_cons.mpr ⟨lw_p6, List.forall_mem_cons.mpr ⟨lw_p7, List.forall_mem_cons.mpr ⟨lw_p8, List.forall_mem_cons.mpr ⟨lw_p9, List.forall_mem_cons.mpr ⟨lw_p10, List.forall_mem_cons.mpr ⟨lw_p11, List.forall_mem_cons.mpr ⟨lw_p12, List.forall_mem_cons.mpr ⟨lw_p13, List.forall_mem_cons.mpr ⟨lw_p14, List.forall_mem_cons.mpr ⟨lw_p15, fun _ h => absurd h List.not_mem_nil⟩⟩⟩⟩⟩⟩⟩⟩⟩⟩⟩⟩⟩⟩⟩⟩
theorem lw_p16 : lw_okq (⟨"SomebodyWill$Reader", "readStreet", "(LSomebodyWill$Street;)Z"⟩, 6) := ⟨⟨by decide +kernel, by decide +kernel⟩, List.mem_of_getElem? (i := 27) (by decide +kernel), List.mem_of_getElem? (i := 353) (by decide +kernel), List.mem_of_getElem? (i := 354) (by decide +kernel)⟩
theorem lw_p17 : lw_okq (⟨"SomebodyWill$Reader", "advance", "()V"⟩, 6) := ⟨⟨by decide +kernel, by decide +kernel⟩, List.mem_of_getElem? (i := 27) (by decide +kernel), List.mem_of_getElem? (i := 357) (by decide +kernel), List.mem_of_getElem? (i := 358) (by decide +kernel)⟩
theorem lw_p18 : lw_okq (⟨"SomebodyWill$Reader", "passWord", "(Ljava/lang/String;)Z"⟩, 6) := ⟨⟨by decide +kernel, by decide +kernel⟩, List.mem_of_getElem? (i := 27) (by decide +kernel), List.mem_of_getElem? (i := 365) (by decide +kernel), List.mem_of_getElem? (i := 366) (by decide +kernel)⟩
theorem lw_p19 : lw_okq (⟨"SomebodyWill$Reader", "isWord", "(Ljava/lang/String;)Z"⟩, 6) := ⟨⟨by decide +kernel, by decide +kernel⟩, List.mem_of_getElem? (i := 27) (by decide +kernel), List.mem_of_getElem? (i := 369) (by decide +kernel), List.mem_of_getElem? (i := 370) (by decide +kernel)⟩
theorem lw_p20 : lw_okq (⟨"SomebodyWill$Reader", "passNumber", "(II)Z"⟩, 6) := ⟨⟨by decide +kernel, by decide +kernel⟩, List.mem_of_getElem? (i := 27) (by decide +kernel), List.mem_of_getElem? (i := 421) (by decide +kernel), List.mem_of_getElem? (i := 422) (by decide +kernel)⟩
theorem lw_p21 : lw_okq (⟨"SomebodyWill$Reader", "numberAtHand", "()I"⟩, 6) := ⟨⟨by decide +kernel, by decide +kernel⟩, List.mem_of_getElem? (i := 27) (by decide +kernel), List.mem_of_getElem? (i := 425) (by decide +kernel), List.mem_of_getElem? (i := 426) (by decide +kernel)⟩
theorem lw_p22 : lw_okq (⟨"SomebodyWill$Street", "clear", "(I)V"⟩, 10) := ⟨⟨by decide +kernel, by decide +kernel⟩, List.mem_of_getElem? (i := 69) (by decide +kernel), List.mem_of_getElem? (i := 429) (by decide +kernel), List.mem_of_getElem? (i := 430) (by decide +kernel)⟩
theorem lw_p23 : lw_okq (⟨"SomebodyWill$Reader", "readStatement", "(LSomebodyWill$Street;)Z"⟩, 6) := ⟨⟨by decide +kernel, by decide +kernel⟩, List.mem_of_getElem? (i := 27) (by decide +kernel), List.mem_of_getElem? (i := 436) (by decide +kernel), List.mem_of_getElem? (i := 437) (by decide +kernel)⟩
theorem lw_p24 : lw_okq (⟨"SomebodyWill$Reader", "readForAll", "([I)Z"⟩, 6) := ⟨⟨by decide +kernel, by decide +kernel⟩, List.mem_of_getElem? (i := 27) (by decide +kernel), List.mem_of_getElem? (i := 441) (by decide +kernel), List.mem_of_getElem? (i := 442) (by decide +kernel)⟩
theorem lw_p25 : lw_okq (⟨"SomebodyWill$Reader", "readMore", "(LSomebodyWill$Street;)Z"⟩, 6) := ⟨⟨by decide +kernel, by decide +kernel⟩, List.mem_of_getElem? (i := 27) (by decide +kernel), List.mem_of_getElem? (i := 448) (by decide +kernel), List.mem_of_getElem? (i := 449) (by decide +kernel)⟩
theorem lw_p26 : lw_okq (⟨"SomebodyWill$Reader", "readOne", "(LSomebodyWill$Street;)Z"⟩, 6) := ⟨⟨by decide +kernel, by decide +kernel⟩, List.mem_of_getElem? (i := 27) (by decide +kernel), List.mem_of_getElem? (i := 453) (by decide +kernel), List.mem_of_getElem? (i := 454) (by decide +kernel)⟩
theorem lw_p27 : lw_okq (⟨"SomebodyWill$Street", "value", "(III)V"⟩, 10) := ⟨⟨by decide +kernel, by decide +kernel⟩, List.mem_of_getElem? (i := 69) (by decide +kernel), List.mem_of_getElem? (i := 457) (by decide +kernel), List.mem_of_getElem? (i := 458) (by decide +kernel)⟩
theorem lw_p28 : lw_okq (⟨"SomebodyWill$Street", "hasPerson", "(I)Z"⟩, 10) := ⟨⟨by decide +kernel, by decide +kernel⟩, List.mem_of_getElem? (i := 69) (by decide +kernel), List.mem_of_getElem? (i := 461) (by decide +kernel), List.mem_of_getElem? (i := 462) (by decide +kernel)⟩
theorem lw_p29 : lw_okq (⟨"SomebodyWill$Reader", "readTie", "(LSomebodyWill$Street;)Z"⟩, 6) := ⟨⟨by decide +kernel, by decide +kernel⟩, List.mem_of_getElem? (i := 27) (by decide +kernel), List.mem_of_getElem? (i := 466) (by decide +kernel), List.mem_of_getElem? (i := 467) (by decide +kernel)⟩
theorem lw_p30 : lw_okq (⟨"SomebodyWill$Street", "join", "(III)V"⟩, 10) := ⟨⟨by decide +kernel, by decide +kernel⟩, List.mem_of_getElem? (i := 69) (by decide +kernel), List.mem_of_getElem? (i := 471) (by decide +kernel), List.mem_of_getElem? (i := 472) (by decide +kernel)⟩
theorem lw_p31 : lw_okq (⟨"SomebodyWill$Street", "hasPair", "(II)Z"⟩, 10) := ⟨⟨by decide +kernel, by decide +kernel⟩, List.mem_of_getElem? (i := 69) (by decide +kernel), List.mem_of_getElem? (i := 475) (by decide +kernel), List.mem_of_getElem? (i := 476) (by decide +kernel)⟩
def lw_privs_2 : List (MethodName × Nat) := [(⟨"SomebodyWill$Reader", "readStreet", "(LSomebodyWill$Street;)Z"⟩, 6), (⟨"SomebodyWill$Reader", "advance", "()V"⟩, 6), (⟨"SomebodyWill$Reader", "passWord", "(Ljava/lang/String;)Z"⟩, 6), (⟨"SomebodyWill$Reader", "isWord", "(Ljava/lang/String;)Z"⟩, 6), (⟨"SomebodyWill$Reader", "passNumber", "(II)Z"⟩, 6), (⟨"SomebodyWill$Reader", "numberAtHand", "()I"⟩, 6), (⟨"SomebodyWill$Street", "clear", "(I)V"⟩, 10), (⟨"SomebodyWill$Reader", "readStatement", "(LSomebodyWill$Street;)Z"⟩, 6), (⟨"SomebodyWill$Reader", "readForAll", "([I)Z"⟩, 6), (⟨"SomebodyWill$Reader", "readMore", "(LSomebodyWill$Street;)Z"⟩, 6), (⟨"SomebodyWill$Reader", "readOne", "(LSomebodyWill$Street;)Z"⟩, 6), (⟨"SomebodyWill$Street", "value", "(III)V"⟩, 10), (⟨"SomebodyWill$Street", "hasPerson", "(I)Z"⟩, 10), (⟨"SomebodyWill$Reader", "readTie", "(LSomebodyWill$Street;)Z"⟩, 6), (⟨"SomebodyWill$Street", "join", "(III)V"⟩, 10), (⟨"SomebodyWill$Street", "hasPair", "(II)Z"⟩, 10)]
theorem lw_r2 : ∀ q ∈ lw_privs_2, lw_okq q := List.forall_mem_cons.mpr ⟨lw_p16, List.forall_mem_cons.mpr ⟨lw_p17, List.forall_mem_cons.mpr ⟨lw_p18, List.forall_mem_cons.mpr ⟨lw_p19, List.forall_mem_cons.mpr ⟨lw_p20, List.forall_mem_cons.mpr ⟨lw_p21, List.forall_mem_cons.mpr ⟨lw_p22, List.forall_mem_cons.mpr ⟨lw_p23, List.forall_mem_cons.mpr ⟨lw_p24, List.forall_mem_cons.mpr ⟨lw_p25, List.forall_mem_cons.mpr ⟨lw_p26, List.forall_mem_cons.mpr ⟨lw_p27, List.forall_mem_cons.mpr ⟨lw_p28, List.forall_mem_cons.mpr ⟨lw_p29, List.forall_mem_cons.mpr ⟨lw_p30, List.forall_mem_cons.mpr ⟨lw_p31, fun _ h => absurd h List.not_mem_nil⟩⟩⟩⟩⟩⟩⟩⟩⟩⟩⟩⟩⟩⟩⟩⟩
theorem lw_p32 : lw_okq (⟨"SomebodyWill$Street", "priceAt", "(III)V"⟩, 10) := ⟨⟨by decide +kernel, by decide +kernel⟩, List.mem_of_getElem? (i := 69) (by decide +kernel), List.mem_of_getElem? (i := 479) (by decide +kernel), List.mem_of_getElem? (i := 480) (by decide +kernel)⟩
theorem lw_p33 : lw_okq (⟨"SomebodyWill$Reader", "readMust", "(LSomebodyWill$Street;)Z"⟩, 6) := ⟨⟨by decide +kernel, by decide +kernel⟩, List.mem_of_getElem? (i := 27) (by decide +kernel), List.mem_of_getElem? (i := 484) (by decide +kernel), List.mem_of_getElem? (i := 485) (by decide +kernel)⟩
theorem lw_p34 : lw_okq (⟨"SomebodyWill$Street", "setMust", "(IZ)V"⟩, 10) := ⟨⟨by decide +kernel, by decide +kernel⟩, List.mem_of_getElem? (i := 69) (by decide +kernel), List.mem_of_getElem? (i := 488) (by decide +kernel), List.mem_of_getElem? (i := 489) (by decide +kernel)⟩
theorem lw_p35 : lw_okq (⟨"SomebodyWill$Street", "joinNeighbours", "()V"⟩, 10) := ⟨⟨by decide +kernel, by decide +kernel⟩, List.mem_of_getElem? (i := 69) (by decide +kernel), List.mem_of_getElem? (i := 493) (by decide +kernel), List.mem_of_getElem? (i := 494) (by decide +kernel)⟩
theorem lw_p36 : lw_okq (⟨"SomebodyWill$Street", "areNear", "(II)Z"⟩, 10) := ⟨⟨by decide +kernel, by decide +kernel⟩, List.mem_of_getElem? (i := 69) (by decide +kernel), List.mem_of_getElem? (i := 497) (by decide +kernel), List.mem_of_getElem? (i := 498) (by decide +kernel)⟩
theorem lw_p37 : lw_okq (⟨"SomebodyWill$Street", "joinAll", "()V"⟩, 10) := ⟨⟨by decide +kernel, by decide +kernel⟩, List.mem_of_getElem? (i := 69) (by decide +kernel), List.mem_of_getElem? (i := 506) (by decide +kernel), List.mem_of_getElem? (i := 507) (by decide +kernel)⟩
theorem lw_p38 : lw_okq (⟨"SomebodyWill$Town", "streetAt", "(I)LSomebodyWill$Street;"⟩, 5) := ⟨⟨by decide +kernel, by decide +kernel⟩, List.mem_of_getElem? (i := 55) (by decide +kernel), List.mem_of_getElem? (i := 515) (by decide +kernel), List.mem_of_getElem? (i := 516) (by decide +kernel)⟩
theorem lw_p39 : lw_okq (⟨"SomebodyWill$Street", "ties", "()I"⟩, 10) := ⟨⟨by decide +kernel, by decide +kernel⟩, List.mem_of_getElem? (i := 69) (by decide +kernel), List.mem_of_getElem? (i := 519) (by decide +kernel), List.mem_of_getElem? (i := 520) (by decide +kernel)⟩
theorem lw_p40 : lw_okq (⟨"SomebodyWill$Street", "prices", "()I"⟩, 10) := ⟨⟨by decide +kernel, by decide +kernel⟩, List.mem_of_getElem? (i := 69) (by decide +kernel), List.mem_of_getElem? (i := 529) (by decide +kernel), List.mem_of_getElem? (i := 530) (by decide +kernel)⟩
theorem lw_p41 : lw_okq (⟨"SomebodyWill$Street", "isMust", "(I)Z"⟩, 10) := ⟨⟨by decide +kernel, by decide +kernel⟩, List.mem_of_getElem? (i := 69) (by decide +kernel), List.mem_of_getElem? (i := 538) (by decide +kernel), List.mem_of_getElem? (i := 539) (by decide +kernel)⟩
theorem lw_p42 : lw_okq (⟨"SomebodyWill$Street", "priceOf", "(II)I"⟩, 10) := ⟨⟨by decide +kernel, by decide +kernel⟩, List.mem_of_getElem? (i := 69) (by decide +kernel), List.mem_of_getElem? (i := 551) (by decide +kernel), List.mem_of_getElem? (i := 552) (by decide +kernel)⟩
theorem lw_p43 : lw_okq (⟨"SomebodyWill$Street", "part", "(II)V"⟩, 10) := ⟨⟨by decide +kernel, by decide +kernel⟩, List.mem_of_getElem? (i := 69) (by decide +kernel), List.mem_of_getElem? (i := 555) (by decide +kernel), List.mem_of_getElem? (i := 556) (by decide +kernel)⟩
theorem lw_p44 : lw_okq (⟨"SomebodyWill$Street", "giveWay", "(III)V"⟩, 10) := ⟨⟨by decide +kernel, by decide +kernel⟩, List.mem_of_getElem? (i := 69) (by decide +kernel), List.mem_of_getElem? (i := 569) (by decide +kernel), List.mem_of_getElem? (i := 570) (by decide +kernel)⟩
theorem lw_p45 : lw_okq (⟨"SomebodyWill$Street", "hasSet", "(I)Z"⟩, 10) := ⟨⟨by decide +kernel, by decide +kernel⟩, List.mem_of_getElem? (i := 69) (by decide +kernel), List.mem_of_getElem? (i := 578) (by decide +kernel), List.mem_of_getElem? (i := 579) (by decide +kernel)⟩
theorem lw_p46 : lw_okq (⟨"SomebodyWill$Street", "sets", "()I"⟩, 10) := ⟨⟨by decide +kernel, by decide +kernel⟩, List.mem_of_getElem? (i := 69) (by decide +kernel), List.mem_of_getElem? (i := 582) (by decide +kernel), List.mem_of_getElem? (i := 583) (by decide +kernel)⟩
theorem lw_p47 : lw_okq (⟨"SomebodyWill$Street", "\x61dmit", "(III)I"⟩, 10) := ⟨⟨by decide +kernel, by decide +kernel⟩, List.mem_of_getElem? (i := 69) (by decide +kernel), List.mem_of_getElem? (i := 586) (by decide +kernel), List.mem_of_getElem? (i := 587) (by decide +kernel)⟩
def lw_privs_3 : List (MethodName × Nat) := [(⟨"SomebodyWill$Street", "priceAt", "(III)V"⟩, 10), (⟨"SomebodyWill$Reader", "readMust", "(LSomebodyWill$Street;)Z"⟩, 6), (⟨"SomebodyWill$Street", "setMust", "(IZ)V"⟩, 10), (⟨"SomebodyWill$Street", "joinNeighbours", "()V"⟩, 10), (⟨"SomebodyWill$Street", "areNear", "(II)Z"⟩, 10), (⟨"SomebodyWill$Street", "joinAll", "()V"⟩, 10), (⟨"SomebodyWill$Town", "streetAt", "(I)LSomebodyWill$Street;"⟩, 5), (⟨"SomebodyWill$Street", "ties", "()I"⟩, 10), (⟨"SomebodyWill$Street", "prices", "()I"⟩, 10), (⟨"SomebodyWill$Street", "isMust", "(I)Z"⟩, 10), (⟨"SomebodyWill$Street", "priceOf", "(II)I"⟩, 10), (⟨"SomebodyWill$Street", "part", "(II)V"⟩, 10), (⟨"SomebodyWill$Street", "giveWay", "(III)V"⟩, 10), (⟨"SomebodyWill$Street", "hasSet", "(I)Z"⟩, 10), (⟨"SomebodyWill$Street", "sets", "()I"⟩, 10), (⟨"SomebodyWill$Street", "\x61dmit", "(III)I"⟩, 10)]
theorem lw_r3 : ∀ q ∈ lw_privs_3, lw_okq q := List.forall_mem_cons.mpr ⟨lw_p32, List.forall_mem_cons.mpr ⟨lw_p33, List.forall_mem_cons.mpr ⟨lw_p34, List.forall_mem_cons.mpr ⟨lw_p35, List.forall_mem_cons.mpr ⟨lw_p36, List.forall_mem_cons.mpr ⟨lw_p37, List.forall_mem_cons.mpr ⟨lw_p38, List.forall_mem_cons.mpr ⟨lw_p39, List.forall_mem_cons.mpr ⟨lw_p40, List.forall_mem_cons.mpr ⟨lw_p41, List.forall_mem_cons.mpr ⟨lw_p42, List.forall_mem_cons.mpr ⟨lw_p43, List.forall_mem_cons.mpr ⟨lw_p44, List.forall_mem_cons.mpr ⟨lw_p45, List.forall_mem_cons.mpr ⟨lw_p46, List.forall_mem_cons.mpr ⟨lw_p47, fun _ h => absurd h List.not_mem_nil⟩⟩⟩⟩⟩⟩⟩⟩⟩⟩⟩⟩⟩⟩⟩⟩
theorem lw_p48 : lw_okq (⟨"SomebodyWill$Street", "gainOf", "(II)I"⟩, 10) := ⟨⟨by decide +kernel, by decide +kernel⟩, List.mem_of_getElem? (i := 69) (by decide +kernel), List.mem_of_getElem? (i := 597) (by decide +kernel), List.mem_of_getElem? (i := 598) (by decide +kernel)⟩
theorem lw_p49 : lw_okq (⟨"SomebodyWill", "streetWithSet", "(II)LSomebodyWill$Street;"⟩, 8) := ⟨⟨by decide +kernel, by decide +kernel⟩, List.mem_of_getElem? (i := 17) (by decide +kernel), List.mem_of_getElem? (i := 605) (by decide +kernel), List.mem_of_getElem? (i := 606) (by decide +kernel)⟩
theorem lw_p50 : lw_okq (⟨"SomebodyWill$Street", "goodOf", "(I)I"⟩, 10) := ⟨⟨by decide +kernel, by decide +kernel⟩, List.mem_of_getElem? (i := 69) (by decide +kernel), List.mem_of_getElem? (i := 609) (by decide +kernel), List.mem_of_getElem? (i := 610) (by decide +kernel)⟩
theorem lw_p51 : lw_okq (⟨"SomebodyWill$Street", "firstRestless", "(I)I"⟩, 10) := ⟨⟨by decide +kernel, by decide +kernel⟩, List.mem_of_getElem? (i := 69) (by decide +kernel), List.mem_of_getElem? (i := 618) (by decide +kernel), List.mem_of_getElem? (i := 619) (by decide +kernel)⟩
theorem lw_p52 : lw_okq (⟨"SomebodyWill$Street", "gainByChange", "(II)I"⟩, 10) := ⟨⟨by decide +kernel, by decide +kernel⟩, List.mem_of_getElem? (i := 69) (by decide +kernel), List.mem_of_getElem? (i := 623) (by decide +kernel), List.mem_of_getElem? (i := 624) (by decide +kernel)⟩
theorem lw_p53 : lw_okq (⟨"SomebodyWill$Street", "edge", "(II)I"⟩, 10) := ⟨⟨by decide +kernel, by decide +kernel⟩, List.mem_of_getElem? (i := 69) (by decide +kernel), List.mem_of_getElem? (i := 627) (by decide +kernel), List.mem_of_getElem? (i := 628) (by decide +kernel)⟩
theorem lw_p54 : lw_okq (⟨"SomebodyWill$Street", "rests", "()I"⟩, 10) := ⟨⟨by decide +kernel, by decide +kernel⟩, List.mem_of_getElem? (i := 69) (by decide +kernel), List.mem_of_getElem? (i := 635) (by decide +kernel), List.mem_of_getElem? (i := 636) (by decide +kernel)⟩
theorem lw_p55 : lw_okq (⟨"SomebodyWill$Street", "isRest", "(I)Z"⟩, 10) := ⟨⟨by decide +kernel, by decide +kernel⟩, List.mem_of_getElem? (i := 69) (by decide +kernel), List.mem_of_getElem? (i := 639) (by decide +kernel), List.mem_of_getElem? (i := 640) (by decide +kernel)⟩
theorem lw_p56 : lw_okq (⟨"SomebodyWill$Street", "restNumber", "(I)I"⟩, 10) := ⟨⟨by decide +kernel, by decide +kernel⟩, List.mem_of_getElem? (i := 69) (by decide +kernel), List.mem_of_getElem? (i := 648) (by decide +kernel), List.mem_of_getElem? (i := 649) (by decide +kernel)⟩
theorem lw_p57 : lw_okq (⟨"SomebodyWill", "restBy", "(II)I"⟩, 8) := ⟨⟨by decide +kernel, by decide +kernel⟩, List.mem_of_getElem? (i := 17) (by decide +kernel), List.mem_of_getElem? (i := 656) (by decide +kernel), List.mem_of_getElem? (i := 657) (by decide +kernel)⟩
theorem lw_p58 : lw_okq (⟨"SomebodyWill$Street", "choose", "(IZ)I"⟩, 10) := ⟨⟨by decide +kernel, by decide +kernel⟩, List.mem_of_getElem? (i := 69) (by decide +kernel), List.mem_of_getElem? (i := 660) (by decide +kernel), List.mem_of_getElem? (i := 661) (by decide +kernel)⟩
theorem lw_p59 : lw_okq (⟨"SomebodyWill$Street", "hasMustsIn", "(I)Z"⟩, 10) := ⟨⟨by decide +kernel, by decide +kernel⟩, List.mem_of_getElem? (i := 69) (by decide +kernel), List.mem_of_getElem? (i := 664) (by decide +kernel), List.mem_of_getElem? (i := 665) (by decide +kernel)⟩
theorem lw_p60 : lw_okq (⟨"SomebodyWill$Street", "valueOf", "(II)I"⟩, 10) := ⟨⟨by decide +kernel, by decide +kernel⟩, List.mem_of_getElem? (i := 69) (by decide +kernel), List.mem_of_getElem? (i := 668) (by decide +kernel), List.mem_of_getElem? (i := 669) (by decide +kernel)⟩
theorem lw_p61 : lw_okq (⟨"SomebodyWill$Street", "costOf", "(I)I"⟩, 10) := ⟨⟨by decide +kernel, by decide +kernel⟩, List.mem_of_getElem? (i := 69) (by decide +kernel), List.mem_of_getElem? (i := 672) (by decide +kernel), List.mem_of_getElem? (i := 673) (by decide +kernel)⟩
theorem lw_p62 : lw_okq (⟨"SomebodyWill", "belowGood", "(II)I"⟩, 8) := ⟨⟨by decide +kernel, by decide +kernel⟩, List.mem_of_getElem? (i := 17) (by decide +kernel), List.mem_of_getElem? (i := 697) (by decide +kernel), List.mem_of_getElem? (i := 698) (by decide +kernel)⟩
theorem lw_p63 : lw_okq (⟨"SomebodyWill$Course", "run", "(LSomebodyWill$Street;I)V"⟩, 4) := ⟨⟨by decide +kernel, by decide +kernel⟩, List.mem_of_getElem? (i := 165) (by decide +kernel), List.mem_of_getElem? (i := 709) (by decide +kernel), List.mem_of_getElem? (i := 710) (by decide +kernel)⟩
def lw_privs_4 : List (MethodName × Nat) := [(⟨"SomebodyWill$Street", "gainOf", "(II)I"⟩, 10), (⟨"SomebodyWill", "streetWithSet", "(II)LSomebodyWill$Street;"⟩, 8), (⟨"SomebodyWill$Street", "goodOf", "(I)I"⟩, 10), (⟨"SomebodyWill$Street", "firstRestless", "(I)I"⟩, 10), (⟨"SomebodyWill$Street", "gainByChange", "(II)I"⟩, 10), (⟨"SomebodyWill$Street", "edge", "(II)I"⟩, 10), (⟨"SomebodyWill$Street", "rests", "()I"⟩, 10), (⟨"SomebodyWill$Street", "isRest", "(I)Z"⟩, 10), (⟨"SomebodyWill$Street", "restNumber", "(I)I"⟩, 10), (⟨"SomebodyWill", "restBy", "(II)I"⟩, 8), (⟨"SomebodyWill$Street", "choose", "(IZ)I"⟩, 10), (⟨"SomebodyWill$Street", "hasMustsIn", "(I)Z"⟩, 10), (⟨"SomebodyWill$Street", "valueOf", "(II)I"⟩, 10), (⟨"SomebodyWill$Street", "costOf", "(I)I"⟩, 10), (⟨"SomebodyWill", "belowGood", "(II)I"⟩, 8), (⟨"SomebodyWill$Course", "run", "(LSomebodyWill$Street;I)V"⟩, 4)]
theorem lw_r4 : ∀ q ∈ lw_privs_4, lw_okq q := List.forall_mem_cons.mpr ⟨lw_p48, List.forall_mem_cons.mpr ⟨lw_p49, List.forall_mem_cons.mpr ⟨lw_p50, List.forall_mem_cons.mpr ⟨lw_p51, List.forall_mem_cons.mpr ⟨lw_p52, List.forall_mem_cons.mpr ⟨lw_p53, List.forall_mem_cons.mpr ⟨lw_p54, List.forall_mem_cons.mpr ⟨lw_p55, List.forall_mem_cons.mpr ⟨lw_p56, List.forall_mem_cons.mpr ⟨lw_p57, List.forall_mem_cons.mpr ⟨lw_p58, List.forall_mem_cons.mpr ⟨lw_p59, List.forall_mem_cons.mpr ⟨lw_p60, List.forall_mem_cons.mpr ⟨lw_p61, List.forall_mem_cons.mpr ⟨lw_p62, List.forall_mem_cons.mpr ⟨lw_p63, fun _ h => absurd h List.not_mem_nil⟩⟩⟩⟩⟩⟩⟩⟩⟩⟩⟩⟩⟩⟩⟩⟩
theorem lw_p64 : lw_okq (⟨"SomebodyWill$Course", "see", "(I)V"⟩, 4) := ⟨⟨by decide +kernel, by decide +kernel⟩, List.mem_of_getElem? (i := 165) (by decide +kernel), List.mem_of_getElem? (i := 714) (by decide +kernel), List.mem_of_getElem? (i := 715) (by decide +kernel)⟩
theorem lw_p65 : lw_okq (⟨"SomebodyWill$Street", "afterRound", "(I)I"⟩, 10) := ⟨⟨by decide +kernel, by decide +kernel⟩, List.mem_of_getElem? (i := 69) (by decide +kernel), List.mem_of_getElem? (i := 718) (by decide +kernel), List.mem_of_getElem? (i := 719) (by decide +kernel)⟩
theorem lw_p66 : lw_okq (⟨"SomebodyWill$Street", "wouldChange", "(II)Z"⟩, 10) := ⟨⟨by decide +kernel, by decide +kernel⟩, List.mem_of_getElem? (i := 69) (by decide +kernel), List.mem_of_getElem? (i := 722) (by decide +kernel), List.mem_of_getElem? (i := 723) (by decide +kernel)⟩
theorem lw_p67 : lw_okq (⟨"SomebodyWill$Course", "isSeen", "(I)Z"⟩, 4) := ⟨⟨by decide +kernel, by decide +kernel⟩, List.mem_of_getElem? (i := 165) (by decide +kernel), List.mem_of_getElem? (i := 727) (by decide +kernel), List.mem_of_getElem? (i := 728) (by decide +kernel)⟩
theorem lw_p68 : lw_okq (⟨"SomebodyWill$Town", "isBarAtRest", "(III)Z"⟩, 5) := ⟨⟨by decide +kernel, by decide +kernel⟩, List.mem_of_getElem? (i := 55) (by decide +kernel), List.mem_of_getElem? (i := 768) (by decide +kernel), List.mem_of_getElem? (i := 769) (by decide +kernel)⟩
theorem lw_p69 : lw_okq (⟨"SomebodyWill$Town", "endsUpTo", "(I)I"⟩, 5) := ⟨⟨by decide +kernel, by decide +kernel⟩, List.mem_of_getElem? (i := 55) (by decide +kernel), List.mem_of_getElem? (i := 772) (by decide +kernel), List.mem_of_getElem? (i := 773) (by decide +kernel)⟩
theorem lw_p70 : lw_okq (⟨"SomebodyWill$Street", "become", "(LSomebodyWill$Street;)V"⟩, 10) := ⟨⟨by decide +kernel, by decide +kernel⟩, List.mem_of_getElem? (i := 69) (by decide +kernel), List.mem_of_getElem? (i := 781) (by decide +kernel), List.mem_of_getElem? (i := 782) (by decide +kernel)⟩
theorem lw_p71 : lw_okq (⟨"SomebodyWill", "isCut", "(LSomebodyWill$Street;III)Z"⟩, 8) := ⟨⟨by decide +kernel, by decide +kernel⟩, List.mem_of_getElem? (i := 17) (by decide +kernel), List.mem_of_getElem? (i := 787) (by decide +kernel), List.mem_of_getElem? (i := 788) (by decide +kernel)⟩
theorem lw_p72 : lw_okq (⟨"SomebodyWill", "isAdded", "(LSomebodyWill$Street;IIII)Z"⟩, 8) := ⟨⟨by decide +kernel, by decide +kernel⟩, List.mem_of_getElem? (i := 17) (by decide +kernel), List.mem_of_getElem? (i := 798) (by decide +kernel), List.mem_of_getElem? (i := 799) (by decide +kernel)⟩
theorem lw_p73 : lw_okq (⟨"SomebodyWill", "isLessened", "(III)Z"⟩, 8) := ⟨⟨by decide +kernel, by decide +kernel⟩, List.mem_of_getElem? (i := 17) (by decide +kernel), List.mem_of_getElem? (i := 807) (by decide +kernel), List.mem_of_getElem? (i := 808) (by decide +kernel)⟩
theorem lw_p74 : lw_okq (⟨"SomebodyWill$Street", "hasRestBelow", "(I)Z"⟩, 10) := ⟨⟨by decide +kernel, by decide +kernel⟩, List.mem_of_getElem? (i := 69) (by decide +kernel), List.mem_of_getElem? (i := 811) (by decide +kernel), List.mem_of_getElem? (i := 812) (by decide +kernel)⟩
theorem lw_p75 : lw_okq (⟨"SomebodyWill$Street", "needOf", "(II)I"⟩, 10) := ⟨⟨by decide +kernel, by decide +kernel⟩, List.mem_of_getElem? (i := 69) (by decide +kernel), List.mem_of_getElem? (i := 819) (by decide +kernel), List.mem_of_getElem? (i := 820) (by decide +kernel)⟩
theorem lw_p76 : lw_okq (⟨"SomebodyWill$Street", "chanceOf", "(II)I"⟩, 10) := ⟨⟨by decide +kernel, by decide +kernel⟩, List.mem_of_getElem? (i := 69) (by decide +kernel), List.mem_of_getElem? (i := 847) (by decide +kernel), List.mem_of_getElem? (i := 848) (by decide +kernel)⟩
theorem lw_p77 : lw_okq (⟨"SomebodyWill$Street", "doesSurely", "(II)Z"⟩, 10) := ⟨⟨by decide +kernel, by decide +kernel⟩, List.mem_of_getElem? (i := 69) (by decide +kernel), List.mem_of_getElem? (i := 851) (by decide +kernel), List.mem_of_getElem? (i := 852) (by decide +kernel)⟩
theorem lw_p78 : lw_okq (⟨"SomebodyWill$Town", "draw", "(I)I"⟩, 5) := ⟨⟨by decide +kernel, by decide +kernel⟩, List.mem_of_getElem? (i := 55) (by decide +kernel), List.mem_of_getElem? (i := 855) (by decide +kernel), List.mem_of_getElem? (i := 856) (by decide +kernel)⟩
theorem lw_p79 : lw_okq (⟨"SomebodyWill$Street", "lightAfter", "(II)I"⟩, 10) := ⟨⟨by decide +kernel, by decide +kernel⟩, List.mem_of_getElem? (i := 69) (by decide +kernel), List.mem_of_getElem? (i := 865) (by decide +kernel), List.mem_of_getElem? (i := 866) (by decide +kernel)⟩
def lw_privs_5 : List (MethodName × Nat) := [(⟨"SomebodyWill$Course", "see", "(I)V"⟩, 4), (⟨"SomebodyWill$Street", "afterRound", "(I)I"⟩, 10), (⟨"SomebodyWill$Street", "wouldChange", "(II)Z"⟩, 10), (⟨"SomebodyWill$Course", "isSeen", "(I)Z"⟩, 4), (⟨"SomebodyWill$Town", "isBarAtRest", "(III)Z"⟩, 5), (⟨"SomebodyWill$Town", "endsUpTo", "(I)I"⟩, 5), (⟨"SomebodyWill$Street", "become", "(LSomebodyWill$Street;)V"⟩, 10), (⟨"SomebodyWill", "isCut", "(LSomebodyWill$Street;III)Z"⟩, 8), (⟨"SomebodyWill", "isAdded", "(LSomebodyWill$Street;IIII)Z"⟩, 8), (⟨"SomebodyWill", "isLessened", "(III)Z"⟩, 8), (⟨"SomebodyWill$Street", "hasRestBelow", "(I)Z"⟩, 10), (⟨"SomebodyWill$Street", "needOf", "(II)I"⟩, 10), (⟨"SomebodyWill$Street", "chanceOf", "(II)I"⟩, 10), (⟨"SomebodyWill$Street", "doesSurely", "(II)Z"⟩, 10), (⟨"SomebodyWill$Town", "draw", "(I)I"⟩, 5), (⟨"SomebodyWill$Street", "lightAfter", "(II)I"⟩, 10)]
theorem lw_r5 : ∀ q ∈ lw_privs_5, lw_okq q := List.forall_mem_cons.mpr ⟨lw_p64, List.forall_mem_cons.mpr ⟨lw_p65, List.forall_mem_cons.mpr ⟨lw_p66, List.forall_mem_cons.mpr ⟨lw_p67, List.forall_mem_cons.mpr ⟨lw_p68, List.forall_mem_cons.mpr ⟨lw_p69, List.forall_mem_cons.mpr ⟨lw_p70, List.forall_mem_cons.mpr ⟨lw_p71, List.forall_mem_cons.mpr ⟨lw_p72, List.forall_mem_cons.mpr ⟨lw_p73, List.forall_mem_cons.mpr ⟨lw_p74, List.forall_mem_cons.mpr ⟨lw_p75, List.forall_mem_cons.mpr ⟨lw_p76, List.forall_mem_cons.mpr ⟨lw_p77, List.forall_mem_cons.mpr ⟨lw_p78, List.forall_mem_cons.mpr ⟨lw_p79, fun _ h => absurd h List.not_mem_nil⟩⟩⟩⟩⟩⟩⟩⟩⟩⟩⟩⟩⟩⟩⟩⟩
theorem lw_p80 : lw_okq (⟨"SomebodyWill$Search", "start", "(LSomebodyWill$Street;I)V"⟩, 6) := ⟨⟨by decide +kernel, by decide +kernel⟩, List.mem_of_getElem? (i := 63) (by decide +kernel), List.mem_of_getElem? (i := 882) (by decide +kernel), List.mem_of_getElem? (i := 883) (by decide +kernel)⟩
theorem lw_p81 : lw_okq (⟨"SomebodyWill$Search", "isDone", "()Z"⟩, 6) := ⟨⟨by decide +kernel, by decide +kernel⟩, List.mem_of_getElem? (i := 63) (by decide +kernel), List.mem_of_getElem? (i := 891) (by decide +kernel), List.mem_of_getElem? (i := 892) (by decide +kernel)⟩
theorem lw_p82 : lw_okq (⟨"SomebodyWill$Search", "advance", "(I)I"⟩, 6) := ⟨⟨by decide +kernel, by decide +kernel⟩, List.mem_of_getElem? (i := 63) (by decide +kernel), List.mem_of_getElem? (i := 896) (by decide +kernel), List.mem_of_getElem? (i := 897) (by decide +kernel)⟩
theorem lw_p83 : lw_okq (⟨"SomebodyWill$Town", "become", "(LSomebodyWill$Town;)V"⟩, 5) := ⟨⟨by decide +kernel, by decide +kernel⟩, List.mem_of_getElem? (i := 55) (by decide +kernel), List.mem_of_getElem? (i := 910) (by decide +kernel), List.mem_of_getElem? (i := 911) (by decide +kernel)⟩
theorem lw_p84 : lw_okq (⟨"SomebodyWill$Search", "become", "(LSomebodyWill$Search;)V"⟩, 6) := ⟨⟨by decide +kernel, by decide +kernel⟩, List.mem_of_getElem? (i := 63) (by decide +kernel), List.mem_of_getElem? (i := 916) (by decide +kernel), List.mem_of_getElem? (i := 917) (by decide +kernel)⟩
theorem lw_p85 : lw_okq (⟨"SomebodyWill", "shelvesInUse", "()I"⟩, 8) := ⟨⟨by decide +kernel, by decide +kernel⟩, List.mem_of_getElem? (i := 17) (by decide +kernel), List.mem_of_getElem? (i := 928) (by decide +kernel), List.mem_of_getElem? (i := 929) (by decide +kernel)⟩
theorem lw_p86 : lw_okq (⟨"SomebodyWillModel", "refuse", "(I)I"⟩, 37) := ⟨⟨by decide +kernel, by decide +kernel⟩, List.mem_of_getElem? (i := 932) (by decide +kernel), List.mem_of_getElem? (i := 1064) (by decide +kernel), List.mem_of_getElem? (i := 1065) (by decide +kernel)⟩
theorem lw_p87 : lw_okq (⟨"SomebodyWillModel", "read", "(I)Z"⟩, 37) := ⟨⟨by decide +kernel, by decide +kernel⟩, List.mem_of_getElem? (i := 932) (by decide +kernel), List.mem_of_getElem? (i := 1117) (by decide +kernel), List.mem_of_getElem? (i := 1118) (by decide +kernel)⟩
theorem lw_p88 : lw_okq (⟨"SomebodyWillModel", "empty", "(II)V"⟩, 37) := ⟨⟨by decide +kernel, by decide +kernel⟩, List.mem_of_getElem? (i := 932) (by decide +kernel), List.mem_of_getElem? (i := 1121) (by decide +kernel), List.mem_of_getElem? (i := 1122) (by decide +kernel)⟩
theorem lw_p89 : lw_okq (⟨"SomebodyWillModel", "look", "()V"⟩, 37) := ⟨⟨by decide +kernel, by decide +kernel⟩, List.mem_of_getElem? (i := 932) (by decide +kernel), List.mem_of_getElem? (i := 1125) (by decide +kernel), List.mem_of_getElem? (i := 1126) (by decide +kernel)⟩
theorem lw_p90 : lw_okq (⟨"SomebodyWillModel", "word", "(Ljava/lang/String;)Z"⟩, 37) := ⟨⟨by decide +kernel, by decide +kernel⟩, List.mem_of_getElem? (i := 932) (by decide +kernel), List.mem_of_getElem? (i := 1139) (by decide +kernel), List.mem_of_getElem? (i := 1140) (by decide +kernel)⟩
theorem lw_p91 : lw_okq (⟨"SomebodyWillModel", "isWord", "(Ljava/lang/String;)Z"⟩, 37) := ⟨⟨by decide +kernel, by decide +kernel⟩, List.mem_of_getElem? (i := 932) (by decide +kernel), List.mem_of_getElem? (i := 1143) (by decide +kernel), List.mem_of_getElem? (i := 1144) (by decide +kernel)⟩
theorem lw_p92 : lw_okq (⟨"SomebodyWillModel", "wrong", "()Z"⟩, 37) := ⟨⟨by decide +kernel, by decide +kernel⟩, List.mem_of_getElem? (i := 932) (by decide +kernel), List.mem_of_getElem? (i := 1149) (by decide +kernel), List.mem_of_getElem? (i := 1150) (by decide +kernel)⟩
theorem lw_p93 : lw_okq (⟨"SomebodyWillModel", "number", "(II)Z"⟩, 37) := ⟨⟨by decide +kernel, by decide +kernel⟩, List.mem_of_getElem? (i := 932) (by decide +kernel), List.mem_of_getElem? (i := 1153) (by decide +kernel), List.mem_of_getElem? (i := 1154) (by decide +kernel)⟩
theorem lw_p94 : lw_okq (⟨"SomebodyWillModel", "statement", "(I)Z"⟩, 37) := ⟨⟨by decide +kernel, by decide +kernel⟩, List.mem_of_getElem? (i := 932) (by decide +kernel), List.mem_of_getElem? (i := 1157) (by decide +kernel), List.mem_of_getElem? (i := 1158) (by decide +kernel)⟩
theorem lw_p95 : lw_okq (⟨"SomebodyWillModel", "tieTold", "(II)Z"⟩, 37) := ⟨⟨by decide +kernel, by decide +kernel⟩, List.mem_of_getElem? (i := 932) (by decide +kernel), List.mem_of_getElem? (i := 1166) (by decide +kernel), List.mem_of_getElem? (i := 1167) (by decide +kernel)⟩
def lw_privs_6 : List (MethodName × Nat) := [(⟨"SomebodyWill$Search", "start", "(LSomebodyWill$Street;I)V"⟩, 6), (⟨"SomebodyWill$Search", "isDone", "()Z"⟩, 6), (⟨"SomebodyWill$Search", "advance", "(I)I"⟩, 6), (⟨"SomebodyWill$Town", "become", "(LSomebodyWill$Town;)V"⟩, 5), (⟨"SomebodyWill$Search", "become", "(LSomebodyWill$Search;)V"⟩, 6), (⟨"SomebodyWill", "shelvesInUse", "()I"⟩, 8), (⟨"SomebodyWillModel", "refuse", "(I)I"⟩, 37), (⟨"SomebodyWillModel", "read", "(I)Z"⟩, 37), (⟨"SomebodyWillModel", "empty", "(II)V"⟩, 37), (⟨"SomebodyWillModel", "look", "()V"⟩, 37), (⟨"SomebodyWillModel", "word", "(Ljava/lang/String;)Z"⟩, 37), (⟨"SomebodyWillModel", "isWord", "(Ljava/lang/String;)Z"⟩, 37), (⟨"SomebodyWillModel", "wrong", "()Z"⟩, 37), (⟨"SomebodyWillModel", "number", "(II)Z"⟩, 37), (⟨"SomebodyWillModel", "statement", "(I)Z"⟩, 37), (⟨"SomebodyWillModel", "tieTold", "(II)Z"⟩, 37)]
theorem lw_r6 : ∀ q ∈ lw_privs_6, lw_okq q := List.forall_mem_cons.mpr ⟨lw_p80, List.forall_mem_cons.mpr ⟨lw_p81, List.forall_mem_cons.mpr ⟨lw_p82, List.forall_mem_cons.mpr ⟨lw_p83, List.forall_mem_cons.mpr ⟨lw_p84, List.forall_mem_cons.mpr ⟨lw_p85, List.forall_mem_cons.mpr ⟨lw_p86, List.forall_mem_cons.mpr ⟨lw_p87, List.forall_mem_cons.mpr ⟨lw_p88, List.forall_mem_cons.mpr ⟨lw_p89, List.forall_mem_cons.mpr ⟨lw_p90, List.forall_mem_cons.mpr ⟨lw_p91, List.forall_mem_cons.mpr ⟨lw_p92, List.forall_mem_cons.mpr ⟨lw_p93, List.forall_mem_cons.mpr ⟨lw_p94, List.forall_mem_cons.mpr ⟨lw_p95, fun _ h => absurd h List.not_mem_nil⟩⟩⟩⟩⟩⟩⟩⟩⟩⟩⟩⟩⟩⟩⟩⟩
theorem lw_p96 : lw_okq (⟨"SomebodyWillModel", "tieThem", "(IIII)V"⟩, 37) := ⟨⟨by decide +kernel, by decide +kernel⟩, List.mem_of_getElem? (i := 932) (by decide +kernel), List.mem_of_getElem? (i := 1171) (by decide +kernel), List.mem_of_getElem? (i := 1172) (by decide +kernel)⟩
theorem lw_p97 : lw_okq (⟨"SomebodyWillModel", "tieNew", "(III)V"⟩, 37) := ⟨⟨by decide +kernel, by decide +kernel⟩, List.mem_of_getElem? (i := 932) (by decide +kernel), List.mem_of_getElem? (i := 1177) (by decide +kernel), List.mem_of_getElem? (i := 1178) (by decide +kernel)⟩
theorem lw_p98 : lw_okq (⟨"SomebodyWillModel", "isStreet", "(I)Z"⟩, 37) := ⟨⟨by decide +kernel, by decide +kernel⟩, List.mem_of_getElem? (i := 932) (by decide +kernel), List.mem_of_getElem? (i := 1186) (by decide +kernel), List.mem_of_getElem? (i := 1187) (by decide +kernel)⟩
theorem lw_p99 : lw_okq (⟨"SomebodyWillModel", "pricesOf", "(II)I"⟩, 37) := ⟨⟨by decide +kernel, by decide +kernel⟩, List.mem_of_getElem? (i := 932) (by decide +kernel), List.mem_of_getElem? (i := 1193) (by decide +kernel), List.mem_of_getElem? (i := 1194) (by decide +kernel)⟩
theorem lw_p100 : lw_okq (⟨"SomebodyWillModel", "isPerson", "(II)Z"⟩, 37) := ⟨⟨by decide +kernel, by decide +kernel⟩, List.mem_of_getElem? (i := 932) (by decide +kernel), List.mem_of_getElem? (i := 1201) (by decide +kernel), List.mem_of_getElem? (i := 1202) (by decide +kernel)⟩
theorem lw_p101 : lw_okq (⟨"SomebodyWillModel", "isSet", "(IJ)Z"⟩, 37) := ⟨⟨by decide +kernel, by decide +kernel⟩, List.mem_of_getElem? (i := 932) (by decide +kernel), List.mem_of_getElem? (i := 1227) (by decide +kernel), List.mem_of_getElem? (i := 1228) (by decide +kernel)⟩
theorem lw_p102 : lw_okq (⟨"SomebodyWillModel", "all", "(I)I"⟩, 37) := ⟨⟨by decide +kernel, by decide +kernel⟩, List.mem_of_getElem? (i := 932) (by decide +kernel), List.mem_of_getElem? (i := 1231) (by decide +kernel), List.mem_of_getElem? (i := 1232) (by decide +kernel)⟩
theorem lw_p103 : lw_okq (⟨"SomebodyWillModel", "gainOf", "(III)I"⟩, 37) := ⟨⟨by decide +kernel, by decide +kernel⟩, List.mem_of_getElem? (i := 932) (by decide +kernel), List.mem_of_getElem? (i := 1240) (by decide +kernel), List.mem_of_getElem? (i := 1241) (by decide +kernel)⟩
theorem lw_p104 : lw_okq (⟨"SomebodyWillModel", "goodOf", "(II)I"⟩, 37) := ⟨⟨by decide +kernel, by decide +kernel⟩, List.mem_of_getElem? (i := 932) (by decide +kernel), List.mem_of_getElem? (i := 1248) (by decide +kernel), List.mem_of_getElem? (i := 1249) (by decide +kernel)⟩
theorem lw_p105 : lw_okq (⟨"SomebodyWillModel", "firstOf", "(II)I"⟩, 37) := ⟨⟨by decide +kernel, by decide +kernel⟩, List.mem_of_getElem? (i := 932) (by decide +kernel), List.mem_of_getElem? (i := 1256) (by decide +kernel), List.mem_of_getElem? (i := 1257) (by decide +kernel)⟩
theorem lw_p106 : lw_okq (⟨"SomebodyWillModel", "would", "(III)Z"⟩, 37) := ⟨⟨by decide +kernel, by decide +kernel⟩, List.mem_of_getElem? (i := 932) (by decide +kernel), List.mem_of_getElem? (i := 1260) (by decide +kernel), List.mem_of_getElem? (i := 1261) (by decide +kernel)⟩
theorem lw_p107 : lw_okq (⟨"SomebodyWillModel", "countRests", "(I)I"⟩, 37) := ⟨⟨by decide +kernel, by decide +kernel⟩, List.mem_of_getElem? (i := 932) (by decide +kernel), List.mem_of_getElem? (i := 1268) (by decide +kernel), List.mem_of_getElem? (i := 1269) (by decide +kernel)⟩
theorem lw_p108 : lw_okq (⟨"SomebodyWillModel", "isRest", "(II)Z"⟩, 37) := ⟨⟨by decide +kernel, by decide +kernel⟩, List.mem_of_getElem? (i := 932) (by decide +kernel), List.mem_of_getElem? (i := 1272) (by decide +kernel), List.mem_of_getElem? (i := 1273) (by decide +kernel)⟩
theorem lw_p109 : lw_okq (⟨"SomebodyWillModel", "sought", "(II)I"⟩, 37) := ⟨⟨by decide +kernel, by decide +kernel⟩, List.mem_of_getElem? (i := 932) (by decide +kernel), List.mem_of_getElem? (i := 1284) (by decide +kernel), List.mem_of_getElem? (i := 1285) (by decide +kernel)⟩
theorem lw_p110 : lw_okq (⟨"SomebodyWillModel", "seek", "(II)I"⟩, 37) := ⟨⟨by decide +kernel, by decide +kernel⟩, List.mem_of_getElem? (i := 932) (by decide +kernel), List.mem_of_getElem? (i := 1288) (by decide +kernel), List.mem_of_getElem? (i := 1289) (by decide +kernel)⟩
theorem lw_p111 : lw_okq (⟨"SomebodyWillModel", "worthOf", "(III)I"⟩, 37) := ⟨⟨by decide +kernel, by decide +kernel⟩, List.mem_of_getElem? (i := 932) (by decide +kernel), List.mem_of_getElem? (i := 1292) (by decide +kernel), List.mem_of_getElem? (i := 1293) (by decide +kernel)⟩
def lw_privs_7 : List (MethodName × Nat) := [(⟨"SomebodyWillModel", "tieThem", "(IIII)V"⟩, 37), (⟨"SomebodyWillModel", "tieNew", "(III)V"⟩, 37), (⟨"SomebodyWillModel", "isStreet", "(I)Z"⟩, 37), (⟨"SomebodyWillModel", "pricesOf", "(II)I"⟩, 37), (⟨"SomebodyWillModel", "isPerson", "(II)Z"⟩, 37), (⟨"SomebodyWillModel", "isSet", "(IJ)Z"⟩, 37), (⟨"SomebodyWillModel", "all", "(I)I"⟩, 37), (⟨"SomebodyWillModel", "gainOf", "(III)I"⟩, 37), (⟨"SomebodyWillModel", "goodOf", "(II)I"⟩, 37), (⟨"SomebodyWillModel", "firstOf", "(II)I"⟩, 37), (⟨"SomebodyWillModel", "would", "(III)Z"⟩, 37), (⟨"SomebodyWillModel", "countRests", "(I)I"⟩, 37), (⟨"SomebodyWillModel", "isRest", "(II)Z"⟩, 37), (⟨"SomebodyWillModel", "sought", "(II)I"⟩, 37), (⟨"SomebodyWillModel", "seek", "(II)I"⟩, 37), (⟨"SomebodyWillModel", "worthOf", "(III)I"⟩, 37)]
theorem lw_r7 : ∀ q ∈ lw_privs_7, lw_okq q := List.forall_mem_cons.mpr ⟨lw_p96, List.forall_mem_cons.mpr ⟨lw_p97, List.forall_mem_cons.mpr ⟨lw_p98, List.forall_mem_cons.mpr ⟨lw_p99, List.forall_mem_cons.mpr ⟨lw_p100, List.forall_mem_cons.mpr ⟨lw_p101, List.forall_mem_cons.mpr ⟨lw_p102, List.forall_mem_cons.mpr ⟨lw_p103, List.forall_mem_cons.mpr ⟨lw_p104, List.forall_mem_cons.mpr ⟨lw_p105, List.forall_mem_cons.mpr ⟨lw_p106, List.forall_mem_cons.mpr ⟨lw_p107, List.forall_mem_cons.mpr ⟨lw_p108, List.forall_mem_cons.mpr ⟨lw_p109, List.forall_mem_cons.mpr ⟨lw_p110, List.forall_mem_cons.mpr ⟨lw_p111, fun _ h => absurd h List.not_mem_nil⟩⟩⟩⟩⟩⟩⟩⟩⟩⟩⟩⟩⟩⟩⟩⟩
theorem lw_p112 : lw_okq (⟨"SomebodyWillModel", "costOf", "(II)I"⟩, 37) := ⟨⟨by decide +kernel, by decide +kernel⟩, List.mem_of_getElem? (i := 932) (by decide +kernel), List.mem_of_getElem? (i := 1296) (by decide +kernel), List.mem_of_getElem? (i := 1297) (by decide +kernel)⟩
theorem lw_p113 : lw_okq (⟨"SomebodyWillModel", "goodSet", "(I)I"⟩, 37) := ⟨⟨by decide +kernel, by decide +kernel⟩, List.mem_of_getElem? (i := 932) (by decide +kernel), List.mem_of_getElem? (i := 1316) (by decide +kernel), List.mem_of_getElem? (i := 1317) (by decide +kernel)⟩
theorem lw_p114 : lw_okq (⟨"SomebodyWillModel", "below", "(II)I"⟩, 37) := ⟨⟨by decide +kernel, by decide +kernel⟩, List.mem_of_getElem? (i := 932) (by decide +kernel), List.mem_of_getElem? (i := 1324) (by decide +kernel), List.mem_of_getElem? (i := 1325) (by decide +kernel)⟩
theorem lw_p115 : lw_okq (⟨"SomebodyWillModel", "inTurn", "(II)V"⟩, 37) := ⟨⟨by decide +kernel, by decide +kernel⟩, List.mem_of_getElem? (i := 932) (by decide +kernel), List.mem_of_getElem? (i := 1336) (by decide +kernel), List.mem_of_getElem? (i := 1337) (by decide +kernel)⟩
theorem lw_p116 : lw_okq (⟨"SomebodyWillModel", "needOf", "(III)I"⟩, 37) := ⟨⟨by decide +kernel, by decide +kernel⟩, List.mem_of_getElem? (i := 932) (by decide +kernel), List.mem_of_getElem? (i := 1391) (by decide +kernel), List.mem_of_getElem? (i := 1392) (by decide +kernel)⟩
theorem lw_p117 : lw_okq (⟨"SomebodyWillModel", "thousandths", "(III)I"⟩, 37) := ⟨⟨by decide +kernel, by decide +kernel⟩, List.mem_of_getElem? (i := 932) (by decide +kernel), List.mem_of_getElem? (i := 1416) (by decide +kernel), List.mem_of_getElem? (i := 1417) (by decide +kernel)⟩
theorem lw_p118 : lw_okq (⟨"SomebodyWillModel", "draw", "(I)I"⟩, 37) := ⟨⟨by decide +kernel, by decide +kernel⟩, List.mem_of_getElem? (i := 932) (by decide +kernel), List.mem_of_getElem? (i := 1420) (by decide +kernel), List.mem_of_getElem? (i := 1421) (by decide +kernel)⟩
theorem lw_p119 : lw_okq (⟨"SomebodyWillModel", "hourOf", "(III)I"⟩, 37) := ⟨⟨by decide +kernel, by decide +kernel⟩, List.mem_of_getElem? (i := 932) (by decide +kernel), List.mem_of_getElem? (i := 1430) (by decide +kernel), List.mem_of_getElem? (i := 1431) (by decide +kernel)⟩
theorem lw_p120 : lw_okq (⟨"SomebodyWillModel", "isDone", "()Z"⟩, 37) := ⟨⟨by decide +kernel, by decide +kernel⟩, List.mem_of_getElem? (i := 932) (by decide +kernel), List.mem_of_getElem? (i := 1450) (by decide +kernel), List.mem_of_getElem? (i := 1451) (by decide +kernel)⟩
theorem lw_p121 : lw_okq (⟨"SomebodyWillModel", "takeFrom", "(LSomebodyWillModel;)V"⟩, 37) := ⟨⟨by decide +kernel, by decide +kernel⟩, List.mem_of_getElem? (i := 932) (by decide +kernel), List.mem_of_getElem? (i := 1464) (by decide +kernel), List.mem_of_getElem? (i := 1465) (by decide +kernel)⟩
def lw_privs_8 : List (MethodName × Nat) := [(⟨"SomebodyWillModel", "costOf", "(II)I"⟩, 37), (⟨"SomebodyWillModel", "goodSet", "(I)I"⟩, 37), (⟨"SomebodyWillModel", "below", "(II)I"⟩, 37), (⟨"SomebodyWillModel", "inTurn", "(II)V"⟩, 37), (⟨"SomebodyWillModel", "needOf", "(III)I"⟩, 37), (⟨"SomebodyWillModel", "thousandths", "(III)I"⟩, 37), (⟨"SomebodyWillModel", "draw", "(I)I"⟩, 37), (⟨"SomebodyWillModel", "hourOf", "(III)I"⟩, 37), (⟨"SomebodyWillModel", "isDone", "()Z"⟩, 37), (⟨"SomebodyWillModel", "takeFrom", "(LSomebodyWillModel;)V"⟩, 37)]
theorem lw_r8 : ∀ q ∈ lw_privs_8, lw_okq q := List.forall_mem_cons.mpr ⟨lw_p112, List.forall_mem_cons.mpr ⟨lw_p113, List.forall_mem_cons.mpr ⟨lw_p114, List.forall_mem_cons.mpr ⟨lw_p115, List.forall_mem_cons.mpr ⟨lw_p116, List.forall_mem_cons.mpr ⟨lw_p117, List.forall_mem_cons.mpr ⟨lw_p118, List.forall_mem_cons.mpr ⟨lw_p119, List.forall_mem_cons.mpr ⟨lw_p120, List.forall_mem_cons.mpr ⟨lw_p121, fun _ h => absurd h List.not_mem_nil⟩⟩⟩⟩⟩⟩⟩⟩⟩⟩
def lw_privs : List (MethodName × Nat) := lw_privs_1 ++ (lw_privs_2 ++ (lw_privs_3 ++ (lw_privs_4 ++ (lw_privs_5 ++ (lw_privs_6 ++ (lw_privs_7 ++ (lw_privs_8)))))))
def lw_tbl : List Cond := k2_sels lw_privs ++ tables_1
theorem lw_privs_ok : ∀ q ∈ lw_privs, lw_okq q := by
  show ∀ q ∈ lw_privs_1 ++ (lw_privs_2 ++ (lw_privs_3 ++ (lw_privs_4 ++ (lw_privs_5 ++ (lw_privs_6 ++ (lw_privs_7 ++ (lw_privs_8))))))), lw_okq q
  exact List.forall_mem_append.mpr ⟨lw_r1, List.forall_mem_append.mpr ⟨lw_r2, List.forall_mem_append.mpr ⟨lw_r3, List.forall_mem_append.mpr ⟨lw_r4, List.forall_mem_append.mpr ⟨lw_r5, List.forall_mem_append.mpr ⟨lw_r6, List.forall_mem_append.mpr ⟨lw_r7, lw_r8⟩⟩⟩⟩⟩⟩⟩
def RX0 : String := "SomebodyWill$Course"
def TX0 : u_T := fun k => match k with
  | 0 => ("SomebodyWill$Course", "seen", "[J", true)
  | 1 => ("SomebodyWill$Course", "end", "I", false)
  | 2 => ("SomebodyWill$Course", "changes", "I", false)
  | _ => ("SomebodyWill$Course", "ringRounds", "I", false)
def tyX0 : Nat → FieldType := fun k => match k with
  | 0 => .array .long
  | 1 => .int
  | 2 => .int
  | _ => .int
abbrev wsX00 : List Cond := u_ws RX0 TX0 4
theorem nmX0 : ∀ a, a < 4 → ∀ b, b < 4 → a ≠ b → (TX0 a).2.1 ≠ (TX0 b).2.1 := by decide +kernel
theorem tyX0_ok : ∀ k, k < 4 → parseFieldDescriptor (TX0 k).2.2.1 = some (tyX0 k) := by decide +kernel
abbrev cX0_init : ByteArray := prog_2_method_1_code
def yX0_init : MethodName := ⟨RX0, "<init>", "()V"⟩
abbrev cX0_run : ByteArray := prog_2_method_2_code
def yX0_run : MethodName := ⟨RX0, "run", "(LSomebodyWill$Street;I)V"⟩
abbrev cX0_roundsBackTo : ByteArray := prog_2_method_3_code
def yX0_roundsBackTo : MethodName := ⟨RX0, "roundsBackTo", "(LSomebodyWill$Street;I)I"⟩
abbrev cX0_see : ByteArray := prog_2_method_4_code
def yX0_see : MethodName := ⟨RX0, "see", "(I)V"⟩
abbrev cX0_isSeen : ByteArray := prog_2_method_5_code
def yX0_isSeen : MethodName := ⟨RX0, "isSeen", "(I)Z"⟩
def RX1 : String := "SomebodyWill$Reader"
def TX1 : u_T := fun k => match k with
  | 0 => ("SomebodyWill$Reader", "bytes", "[I", true)
  | 1 => ("SomebodyWill$Reader", "size", "I", false)
  | 2 => ("SomebodyWill$Reader", "sort", "I", false)
  | 3 => ("SomebodyWill$Reader", "start", "I", false)
  | 4 => ("SomebodyWill$Reader", "behind", "I", false)
  | _ => ("SomebodyWill$Reader", "passed", "I", false)
def tyX1 : Nat → FieldType := fun k => match k with
  | 0 => .array .int
  | 1 => .int
  | 2 => .int
  | 3 => .int
  | 4 => .int
  | _ => .int
abbrev wsX10 : List Cond := u_ws RX1 TX1 6
theorem nmX1 : ∀ a, a < 6 → ∀ b, b < 6 → a ≠ b → (TX1 a).2.1 ≠ (TX1 b).2.1 := by decide +kernel
theorem tyX1_ok : ∀ k, k < 6 → parseFieldDescriptor (TX1 k).2.2.1 = some (tyX1 k) := by decide +kernel
abbrev cX1_init : ByteArray := prog_3_method_1_code
def yX1_init : MethodName := ⟨RX1, "<init>", "()V"⟩
abbrev cX1_append : ByteArray := prog_3_method_2_code
def yX1_append : MethodName := ⟨RX1, "append", "(I)V"⟩
abbrev cX1_empty : ByteArray := prog_3_method_3_code
def yX1_empty : MethodName := ⟨RX1, "empty", "()V"⟩
abbrev cX1_readStreet : ByteArray := prog_3_method_4_code
def yX1_readStreet : MethodName := ⟨RX1, "readStreet", "(LSomebodyWill$Street;)Z"⟩
abbrev cX1_readStatement : ByteArray := prog_3_method_5_code
def yX1_readStatement : MethodName := ⟨RX1, "readStatement", "(LSomebodyWill$Street;)Z"⟩
abbrev cX1_readForAll : ByteArray := prog_3_method_6_code
def yX1_readForAll : MethodName := ⟨RX1, "readForAll", "([I)Z"⟩
abbrev cX1_readMore : ByteArray := prog_3_method_7_code
def yX1_readMore : MethodName := ⟨RX1, "readMore", "(LSomebodyWill$Street;)Z"⟩
abbrev cX1_readOne : ByteArray := prog_3_method_8_code
def yX1_readOne : MethodName := ⟨RX1, "readOne", "(LSomebodyWill$Street;)Z"⟩
abbrev cX1_readTie : ByteArray := prog_3_method_9_code
def yX1_readTie : MethodName := ⟨RX1, "readTie", "(LSomebodyWill$Street;)Z"⟩
abbrev cX1_readMust : ByteArray := prog_3_method_10_code
def yX1_readMust : MethodName := ⟨RX1, "readMust", "(LSomebodyWill$Street;)Z"⟩
abbrev cX1_passNumber : ByteArray := prog_3_method_11_code
def yX1_passNumber : MethodName := ⟨RX1, "passNumber", "(II)Z"⟩
abbrev cX1_passWord : ByteArray := prog_3_method_12_code
def yX1_passWord : MethodName := ⟨RX1, "passWord", "(Ljava/lang/String;)Z"⟩
abbrev cX1_isWord : ByteArray := prog_3_method_13_code
def yX1_isWord : MethodName := ⟨RX1, "isWord", "(Ljava/lang/String;)Z"⟩
abbrev cX1_numberAtHand : ByteArray := prog_3_method_14_code
def yX1_numberAtHand : MethodName := ⟨RX1, "numberAtHand", "()I"⟩
abbrev cX1_advance : ByteArray := prog_3_method_15_code
def yX1_advance : MethodName := ⟨RX1, "advance", "()V"⟩
abbrev cX1_sortOf : ByteArray := prog_3_method_16_code
def yX1_sortOf : MethodName := ⟨RX1, "sortOf", "(I)I"⟩
def RX2 : String := "SomebodyWill$Search"
def TX2 : u_T := fun k => match k with
  | 0 => ("SomebodyWill$Search", "street", "LSomebodyWill$Street;", true)
  | 1 => ("SomebodyWill$Search", "isUnderWay", "Z", false)
  | 2 => ("SomebodyWill$Search", "streetNumber", "I", false)
  | 3 => ("SomebodyWill$Search", "next", "I", false)
  | 4 => ("SomebodyWill$Search", "found", "I", false)
  | _ => ("SomebodyWill$Search", "last", "I", false)
def tyX2 : Nat → FieldType := fun k => match k with
  | 0 => .object "SomebodyWill$Street"
  | 1 => .boolean
  | 2 => .int
  | 3 => .int
  | 4 => .int
  | _ => .int
abbrev wsX20 : List Cond := u_ws RX2 TX2 6
theorem nmX2 : ∀ a, a < 6 → ∀ b, b < 6 → a ≠ b → (TX2 a).2.1 ≠ (TX2 b).2.1 := by decide +kernel
theorem tyX2_ok : ∀ k, k < 6 → parseFieldDescriptor (TX2 k).2.2.1 = some (tyX2 k) := by decide +kernel
abbrev cX2_init : ByteArray := prog_4_method_1_code
def yX2_init : MethodName := ⟨RX2, "<init>", "()V"⟩
abbrev cX2_start : ByteArray := prog_4_method_2_code
def yX2_start : MethodName := ⟨RX2, "start", "(LSomebodyWill$Street;I)V"⟩
abbrev cX2_become : ByteArray := prog_4_method_3_code
def yX2_become : MethodName := ⟨RX2, "become", "(LSomebodyWill$Search;)V"⟩
abbrev cX2_isDone : ByteArray := prog_4_method_4_code
def yX2_isDone : MethodName := ⟨RX2, "isDone", "()Z"⟩
abbrev cX2_advance : ByteArray := prog_4_method_5_code
def yX2_advance : MethodName := ⟨RX2, "advance", "(I)I"⟩
def RX3 : String := "SomebodyWill$Shelf"
def TX3 : u_T := fun k => match k with
  | 0 => ("SomebodyWill$Shelf", "places", "[J", true)
  | 1 => ("SomebodyWill$Shelf", "holding", "I", false)
  | 2 => ("SomebodyWill$Shelf", "size", "I", false)
  | _ => ("SomebodyWill$Shelf", "wayTold", "I", false)
def tyX3 : Nat → FieldType := fun k => match k with
  | 0 => .array .long
  | 1 => .int
  | 2 => .int
  | _ => .int
abbrev wsX30 : List Cond := u_ws RX3 TX3 4
theorem nmX3 : ∀ a, a < 4 → ∀ b, b < 4 → a ≠ b → (TX3 a).2.1 ≠ (TX3 b).2.1 := by decide +kernel
theorem tyX3_ok : ∀ k, k < 4 → parseFieldDescriptor (TX3 k).2.2.1 = some (tyX3 k) := by decide +kernel
abbrev cX3_init : ByteArray := prog_5_method_1_code
def yX3_init : MethodName := ⟨RX3, "<init>", "()V"⟩
abbrev cX3_isRow : ByteArray := prog_5_method_2_code
def yX3_isRow : MethodName := ⟨RX3, "isRow", "()Z"⟩
abbrev cX3_isWay : ByteArray := prog_5_method_3_code
def yX3_isWay : MethodName := ⟨RX3, "isWay", "()Z"⟩
abbrev cX3_wayKind : ByteArray := prog_5_method_4_code
def yX3_wayKind : MethodName := ⟨RX3, "wayKind", "()I"⟩
abbrev cX3_putRow : ByteArray := prog_5_method_5_code
def yX3_putRow : MethodName := ⟨RX3, "putRow", "(II)V"⟩
abbrev cX3_putWay : ByteArray := prog_5_method_6_code
def yX3_putWay : MethodName := ⟨RX3, "putWay", "(II)V"⟩
abbrev cX3_hasPlaces : ByteArray := prog_5_method_7_code
def yX3_hasPlaces : MethodName := ⟨RX3, "hasPlaces", "(II)Z"⟩
abbrev cX3_put : ByteArray := prog_5_method_8_code
def yX3_put : MethodName := ⟨RX3, "put", "(IJ)V"⟩
abbrev cX3_told : ByteArray := prog_5_method_9_code
def yX3_told : MethodName := ⟨RX3, "told", "(I)J"⟩
abbrev cX3_toldSet : ByteArray := prog_5_method_10_code
def yX3_toldSet : MethodName := ⟨RX3, "toldSet", "()I"⟩
abbrev cX3_isOfKind : ByteArray := prog_5_method_11_code
def yX3_isOfKind : MethodName := ⟨RX3, "isOfKind", "(I)Z"⟩
abbrev cX3_saidAs : ByteArray := prog_5_method_12_code
def yX3_saidAs : MethodName := ⟨RX3, "saidAs", "(I)I"⟩
def RX4 : String := "SomebodyWill$Street"
def TX4 : u_T := fun k => match k with
  | 0 => ("SomebodyWill$Street", "cost", "[I", true)
  | 1 => ("SomebodyWill$Street", "worth", "[I", true)
  | 2 => ("SomebodyWill$Street", "near", "[I", true)
  | 3 => ("SomebodyWill$Street", "wayKind", "[I", true)
  | 4 => ("SomebodyWill$Street", "wayTold", "[I", true)
  | 5 => ("SomebodyWill$Street", "price", "[I", true)
  | 6 => ("SomebodyWill$Street", "pays", "[I", true)
  | 7 => ("SomebodyWill$Street", "persons", "I", false)
  | 8 => ("SomebodyWill$Street", "more", "I", false)
  | _ => ("SomebodyWill$Street", "musts", "I", false)
def tyX4 : Nat → FieldType := fun k => match k with
  | 0 => .array .int
  | 1 => .array .int
  | 2 => .array .int
  | 3 => .array .int
  | 4 => .array .int
  | 5 => .array .int
  | 6 => .array .int
  | 7 => .int
  | 8 => .int
  | _ => .int
abbrev wsX40 : List Cond := u_ws RX4 TX4 10
theorem nmX4 : ∀ a, a < 10 → ∀ b, b < 10 → a ≠ b → (TX4 a).2.1 ≠ (TX4 b).2.1 := by decide +kernel
theorem tyX4_ok : ∀ k, k < 10 → parseFieldDescriptor (TX4 k).2.2.1 = some (tyX4 k) := by decide +kernel
abbrev cX4_init : ByteArray := prog_6_method_1_code
def yX4_init : MethodName := ⟨RX4, "<init>", "()V"⟩
abbrev cX4_clear : ByteArray := prog_6_method_2_code
def yX4_clear : MethodName := ⟨RX4, "clear", "(I)V"⟩
abbrev cX4_become : ByteArray := prog_6_method_3_code
def yX4_become : MethodName := ⟨RX4, "become", "(LSomebodyWill$Street;)V"⟩
abbrev cX4_hasPerson : ByteArray := prog_6_method_4_code
def yX4_hasPerson : MethodName := ⟨RX4, "hasPerson", "(I)Z"⟩
abbrev cX4_hasPair : ByteArray := prog_6_method_5_code
def yX4_hasPair : MethodName := ⟨RX4, "hasPair", "(II)Z"⟩
abbrev cX4_sets : ByteArray := prog_6_method_6_code
def yX4_sets : MethodName := ⟨RX4, "sets", "()I"⟩
abbrev cX4_hasSet : ByteArray := prog_6_method_7_code
def yX4_hasSet : MethodName := ⟨RX4, "hasSet", "(I)Z"⟩
abbrev cX4_hasMustsIn : ByteArray := prog_6_method_8_code
def yX4_hasMustsIn : MethodName := ⟨RX4, "hasMustsIn", "(I)Z"⟩
abbrev cX4_isIn : ByteArray := prog_6_method_9_code
def yX4_isIn : MethodName := ⟨RX4, "isIn", "(II)Z"⟩
abbrev cX4_isMust : ByteArray := prog_6_method_10_code
def yX4_isMust : MethodName := ⟨RX4, "isMust", "(I)Z"⟩
abbrev cX4_setMust : ByteArray := prog_6_method_11_code
def yX4_setMust : MethodName := ⟨RX4, "setMust", "(IZ)V"⟩
abbrev cX4_value : ByteArray := prog_6_method_12_code
def yX4_value : MethodName := ⟨RX4, "value", "(III)V"⟩
abbrev cX4_giveWay : ByteArray := prog_6_method_13_code
def yX4_giveWay : MethodName := ⟨RX4, "giveWay", "(III)V"⟩
abbrev cX4_admit : ByteArray := prog_6_method_14_code
def yX4_admit : MethodName := ⟨RX4, "\x61dmit", "(III)I"⟩
abbrev cX4_areNear : ByteArray := prog_6_method_15_code
def yX4_areNear : MethodName := ⟨RX4, "areNear", "(II)Z"⟩
abbrev cX4_priceOf : ByteArray := prog_6_method_16_code
def yX4_priceOf : MethodName := ⟨RX4, "priceOf", "(II)I"⟩
abbrev cX4_join : ByteArray := prog_6_method_17_code
def yX4_join : MethodName := ⟨RX4, "join", "(III)V"⟩
abbrev cX4_part : ByteArray := prog_6_method_18_code
def yX4_part : MethodName := ⟨RX4, "part", "(II)V"⟩
abbrev cX4_priceAt : ByteArray := prog_6_method_19_code
def yX4_priceAt : MethodName := ⟨RX4, "priceAt", "(III)V"⟩
abbrev cX4_joinNeighbours : ByteArray := prog_6_method_20_code
def yX4_joinNeighbours : MethodName := ⟨RX4, "joinNeighbours", "()V"⟩
abbrev cX4_joinAll : ByteArray := prog_6_method_21_code
def yX4_joinAll : MethodName := ⟨RX4, "joinAll", "()V"⟩
abbrev cX4_ties : ByteArray := prog_6_method_22_code
def yX4_ties : MethodName := ⟨RX4, "ties", "()I"⟩
abbrev cX4_prices : ByteArray := prog_6_method_23_code
def yX4_prices : MethodName := ⟨RX4, "prices", "()I"⟩
abbrev cX4_gainOf : ByteArray := prog_6_method_24_code
def yX4_gainOf : MethodName := ⟨RX4, "gainOf", "(II)I"⟩
abbrev cX4_goodOf : ByteArray := prog_6_method_25_code
def yX4_goodOf : MethodName := ⟨RX4, "goodOf", "(I)I"⟩
abbrev cX4_edge : ByteArray := prog_6_method_26_code
def yX4_edge : MethodName := ⟨RX4, "edge", "(II)I"⟩
abbrev cX4_gainByChange : ByteArray := prog_6_method_27_code
def yX4_gainByChange : MethodName := ⟨RX4, "gainByChange", "(II)I"⟩
abbrev cX4_wouldChange : ByteArray := prog_6_method_28_code
def yX4_wouldChange : MethodName := ⟨RX4, "wouldChange", "(II)Z"⟩
abbrev cX4_needOf : ByteArray := prog_6_method_29_code
def yX4_needOf : MethodName := ⟨RX4, "needOf", "(II)I"⟩
abbrev cX4_firstRestless : ByteArray := prog_6_method_30_code
def yX4_firstRestless : MethodName := ⟨RX4, "firstRestless", "(I)I"⟩
abbrev cX4_isRest : ByteArray := prog_6_method_31_code
def yX4_isRest : MethodName := ⟨RX4, "isRest", "(I)Z"⟩
abbrev cX4_rests : ByteArray := prog_6_method_32_code
def yX4_rests : MethodName := ⟨RX4, "rests", "()I"⟩
abbrev cX4_restNumber : ByteArray := prog_6_method_33_code
def yX4_restNumber : MethodName := ⟨RX4, "restNumber", "(I)I"⟩
abbrev cX4_hasRestBelow : ByteArray := prog_6_method_34_code
def yX4_hasRestBelow : MethodName := ⟨RX4, "hasRestBelow", "(I)Z"⟩
abbrev cX4_choose : ByteArray := prog_6_method_35_code
def yX4_choose : MethodName := ⟨RX4, "choose", "(IZ)I"⟩
abbrev cX4_valueOf : ByteArray := prog_6_method_36_code
def yX4_valueOf : MethodName := ⟨RX4, "valueOf", "(II)I"⟩
abbrev cX4_costOf : ByteArray := prog_6_method_37_code
def yX4_costOf : MethodName := ⟨RX4, "costOf", "(I)I"⟩
abbrev cX4_afterRound : ByteArray := prog_6_method_38_code
def yX4_afterRound : MethodName := ⟨RX4, "afterRound", "(I)I"⟩
abbrev cX4_chanceOf : ByteArray := prog_6_method_39_code
def yX4_chanceOf : MethodName := ⟨RX4, "chanceOf", "(II)I"⟩
abbrev cX4_doesSurely : ByteArray := prog_6_method_40_code
def yX4_doesSurely : MethodName := ⟨RX4, "doesSurely", "(II)Z"⟩
abbrev cX4_lightAfter : ByteArray := prog_6_method_41_code
def yX4_lightAfter : MethodName := ⟨RX4, "lightAfter", "(II)I"⟩
def RX5 : String := "SomebodyWill$Town"
def TX5 : u_T := fun k => match k with
  | 0 => ("SomebodyWill$Town", "streets", "[LSomebodyWill$Street;", true)
  | 1 => ("SomebodyWill$Town", "known", "[I", true)
  | 2 => ("SomebodyWill$Town", "hunt", "LSomebodyWill$Search;", true)
  | 3 => ("SomebodyWill$Town", "size", "I", false)
  | _ => ("SomebodyWill$Town", "chanceSeed", "I", false)
def tyX5 : Nat → FieldType := fun k => match k with
  | 0 => .array (.object "SomebodyWill$Street")
  | 1 => .array .int
  | 2 => .object "SomebodyWill$Search"
  | 3 => .int
  | _ => .int
abbrev wsX50 : List Cond := u_ws RX5 TX5 5
theorem nmX5 : ∀ a, a < 5 → ∀ b, b < 5 → a ≠ b → (TX5 a).2.1 ≠ (TX5 b).2.1 := by decide +kernel
theorem tyX5_ok : ∀ k, k < 5 → parseFieldDescriptor (TX5 k).2.2.1 = some (tyX5 k) := by decide +kernel
abbrev cX5_init : ByteArray := prog_7_method_1_code
def yX5_init : MethodName := ⟨RX5, "<init>", "()V"⟩
abbrev cX5_become : ByteArray := prog_7_method_2_code
def yX5_become : MethodName := ⟨RX5, "become", "(LSomebodyWill$Town;)V"⟩
abbrev cX5_streetAt : ByteArray := prog_7_method_3_code
def yX5_streetAt : MethodName := ⟨RX5, "streetAt", "(I)LSomebodyWill$Street;"⟩
abbrev cX5_placeForNext : ByteArray := prog_7_method_4_code
def yX5_placeForNext : MethodName := ⟨RX5, "placeForNext", "()LSomebodyWill$Street;"⟩
abbrev cX5_draw : ByteArray := prog_7_method_5_code
def yX5_draw : MethodName := ⟨RX5, "draw", "(I)I"⟩
abbrev cX5_isBarAtRest : ByteArray := prog_7_method_6_code
def yX5_isBarAtRest : MethodName := ⟨RX5, "isBarAtRest", "(III)Z"⟩
abbrev cX5_endsUpTo : ByteArray := prog_7_method_7_code
def yX5_endsUpTo : MethodName := ⟨RX5, "endsUpTo", "(I)I"⟩
def RX6 : String := "SomebodyWill"
def TX6 : u_T := fun k => match k with
  | 0 => ("SomebodyWill", "shelves", "[LSomebodyWill$Shelf;", true)
  | 1 => ("SomebodyWill", "tape", "LSomebodyWill$Reader;", true)
  | 2 => ("SomebodyWill", "town", "LSomebodyWill$Town;", true)
  | 3 => ("SomebodyWill", "kept", "LSomebodyWill$Town;", true)
  | 4 => ("SomebodyWill", "trial", "LSomebodyWill$Street;", true)
  | 5 => ("SomebodyWill", "course", "LSomebodyWill$Course;", true)
  | 6 => ("SomebodyWill", "refused", "[I", true)
  | _ => ("SomebodyWill", "isKept", "Z", false)
def tyX6 : Nat → FieldType := fun k => match k with
  | 0 => .array (.object "SomebodyWill$Shelf")
  | 1 => .object "SomebodyWill$Reader"
  | 2 => .object "SomebodyWill$Town"
  | 3 => .object "SomebodyWill$Town"
  | 4 => .object "SomebodyWill$Street"
  | 5 => .object "SomebodyWill$Course"
  | 6 => .array .int
  | _ => .boolean
abbrev wsX60 : List Cond := u_ws RX6 TX6 8
theorem nmX6 : ∀ a, a < 8 → ∀ b, b < 8 → a ≠ b → (TX6 a).2.1 ≠ (TX6 b).2.1 := by decide +kernel
theorem tyX6_ok : ∀ k, k < 8 → parseFieldDescriptor (TX6 k).2.2.1 = some (tyX6 k) := by decide +kernel
abbrev cX6_init : ByteArray := prog_1_method_1_code
def yX6_init : MethodName := ⟨RX6, "<init>", "()V"⟩
abbrev cX6_row : ByteArray := prog_1_method_2_code
def yX6_row : MethodName := ⟨RX6, "row", "(III)I"⟩
abbrev cX6_set : ByteArray := prog_1_method_3_code
def yX6_set : MethodName := ⟨RX6, "set", "(IIJ)I"⟩
abbrev cX6_copy : ByteArray := prog_1_method_4_code
def yX6_copy : MethodName := ⟨RX6, "copy", "(IIIII)I"⟩
abbrev cX6_element : ByteArray := prog_1_method_5_code
def yX6_element : MethodName := ⟨RX6, "element", "(II)J"⟩
abbrev cX6_holds : ByteArray := prog_1_method_6_code
def yX6_holds : MethodName := ⟨RX6, "holds", "(I)I"⟩
abbrev cX6_way : ByteArray := prog_1_method_7_code
def yX6_way : MethodName := ⟨RX6, "way", "(III)I"⟩
abbrev cX6_says : ByteArray := prog_1_method_8_code
def yX6_says : MethodName := ⟨RX6, "says", "(II)I"⟩
abbrev cX6_feed : ByteArray := prog_1_method_9_code
def yX6_feed : MethodName := ⟨RX6, "feed", "(II)I"⟩
abbrev cX6_wipe : ByteArray := prog_1_method_10_code
def yX6_wipe : MethodName := ⟨RX6, "wipe", "()I"⟩
abbrev cX6_street : ByteArray := prog_1_method_11_code
def yX6_street : MethodName := ⟨RX6, "street", "()I"⟩
abbrev cX6_streetOf : ByteArray := prog_1_method_12_code
def yX6_streetOf : MethodName := ⟨RX6, "streetOf", "(II)I"⟩
abbrev cX6_personOf : ByteArray := prog_1_method_13_code
def yX6_personOf : MethodName := ⟨RX6, "personOf", "(III)I"⟩
abbrev cX6_alter : ByteArray := prog_1_method_14_code
def yX6_alter : MethodName := ⟨RX6, "alter", "(IIII)I"⟩
abbrev cX6_tie : ByteArray := prog_1_method_15_code
def yX6_tie : MethodName := ⟨RX6, "tie", "(IIII)I"⟩
abbrev cX6_must : ByteArray := prog_1_method_16_code
def yX6_must : MethodName := ⟨RX6, "must", "(IIZ)I"⟩
abbrev cX6_take : ByteArray := prog_1_method_17_code
def yX6_take : MethodName := ⟨RX6, "take", "(III)I"⟩
abbrev cX6_come : ByteArray := prog_1_method_18_code
def yX6_come : MethodName := ⟨RX6, "come", "(IIII)I"⟩
abbrev cX6_gain : ByteArray := prog_1_method_19_code
def yX6_gain : MethodName := ⟨RX6, "gain", "(III)I"⟩
abbrev cX6_total : ByteArray := prog_1_method_20_code
def yX6_total : MethodName := ⟨RX6, "total", "(II)I"⟩
abbrev cX6_judge : ByteArray := prog_1_method_21_code
def yX6_judge : MethodName := ⟨RX6, "judge", "(II)I"⟩
abbrev cX6_count : ByteArray := prog_1_method_22_code
def yX6_count : MethodName := ⟨RX6, "count", "(I)I"⟩
abbrev cX6_rest : ByteArray := prog_1_method_23_code
def yX6_rest : MethodName := ⟨RX6, "rest", "(II)I"⟩
abbrev cX6_fewest : ByteArray := prog_1_method_24_code
def yX6_fewest : MethodName := ⟨RX6, "fewest", "(I)I"⟩
abbrev cX6_most : ByteArray := prog_1_method_25_code
def yX6_most : MethodName := ⟨RX6, "most", "(I)I"⟩
abbrev cX6_cheap : ByteArray := prog_1_method_26_code
def yX6_cheap : MethodName := ⟨RX6, "cheap", "(I)I"⟩
abbrev cX6_best : ByteArray := prog_1_method_27_code
def yX6_best : MethodName := ⟨RX6, "best", "(I)I"⟩
abbrev cX6_good : ByteArray := prog_1_method_28_code
def yX6_good : MethodName := ⟨RX6, "good", "(I)I"⟩
abbrev cX6_lost : ByteArray := prog_1_method_29_code
def yX6_lost : MethodName := ⟨RX6, "lost", "(I)I"⟩
abbrev cX6_beside : ByteArray := prog_1_method_30_code
def yX6_beside : MethodName := ⟨RX6, "beside", "(I)I"⟩
abbrev cX6_go : ByteArray := prog_1_method_31_code
def yX6_go : MethodName := ⟨RX6, "go", "(II)I"⟩
abbrev cX6_turns : ByteArray := prog_1_method_32_code
def yX6_turns : MethodName := ⟨RX6, "turns", "(II)I"⟩
abbrev cX6_ring : ByteArray := prog_1_method_33_code
def yX6_ring : MethodName := ⟨RX6, "ring", "(II)I"⟩
abbrev cX6_lot : ByteArray := prog_1_method_34_code
def yX6_lot : MethodName := ⟨RX6, "lot", "(III)I"⟩
abbrev cX6_nobody : ByteArray := prog_1_method_35_code
def yX6_nobody : MethodName := ⟨RX6, "nobody", "(III)I"⟩
abbrev cX6_know : ByteArray := prog_1_method_36_code
def yX6_know : MethodName := ⟨RX6, "know", "(II)I"⟩
abbrev cX6_bar : ByteArray := prog_1_method_37_code
def yX6_bar : MethodName := ⟨RX6, "bar", "(II)I"⟩
abbrev cX6_cuts : ByteArray := prog_1_method_38_code
def yX6_cuts : MethodName := ⟨RX6, "cuts", "(II)I"⟩
abbrev cX6_adds : ByteArray := prog_1_method_39_code
def yX6_adds : MethodName := ⟨RX6, "adds", "(III)I"⟩
abbrev cX6_less : ByteArray := prog_1_method_40_code
def yX6_less : MethodName := ⟨RX6, "less", "(I)I"⟩
abbrev cX6_need : ByteArray := prog_1_method_41_code
def yX6_need : MethodName := ⟨RX6, "need", "(III)I"⟩
abbrev cX6_pay : ByteArray := prog_1_method_42_code
def yX6_pay : MethodName := ⟨RX6, "pay", "(II)I"⟩
abbrev cX6_few : ByteArray := prog_1_method_43_code
def yX6_few : MethodName := ⟨RX6, "few", "(II)I"⟩
abbrev cX6_rota : ByteArray := prog_1_method_44_code
def yX6_rota : MethodName := ⟨RX6, "rota", "(III)I"⟩
abbrev cX6_doers : ByteArray := prog_1_method_45_code
def yX6_doers : MethodName := ⟨RX6, "doers", "(II)I"⟩
abbrev cX6_light : ByteArray := prog_1_method_46_code
def yX6_light : MethodName := ⟨RX6, "light", "(II)I"⟩
abbrev cX6_late : ByteArray := prog_1_method_47_code
def yX6_late : MethodName := ⟨RX6, "late", "(II)I"⟩
abbrev cX6_seed : ByteArray := prog_1_method_48_code
def yX6_seed : MethodName := ⟨RX6, "seed", "(I)I"⟩
abbrev cX6_begin : ByteArray := prog_1_method_49_code
def yX6_begin : MethodName := ⟨RX6, "begin", "(I)I"⟩
abbrev cX6_step : ByteArray := prog_1_method_50_code
def yX6_step : MethodName := ⟨RX6, "step", "(I)I"⟩
abbrev cX6_search : ByteArray := prog_1_method_51_code
def yX6_search : MethodName := ⟨RX6, "search", "(I)I"⟩
abbrev cX6_image : ByteArray := prog_1_method_52_code
def yX6_image : MethodName := ⟨RX6, "image", "()I"⟩
abbrev cX6_back : ByteArray := prog_1_method_53_code
def yX6_back : MethodName := ⟨RX6, "back", "()I"⟩
abbrev cX6_status : ByteArray := prog_1_method_54_code
def yX6_status : MethodName := ⟨RX6, "status", "(I)I"⟩
abbrev cX6_refuse : ByteArray := prog_1_method_55_code
def yX6_refuse : MethodName := ⟨RX6, "refuse", "(I)I"⟩
abbrev cX6_isWithin : ByteArray := prog_1_method_56_code
def yX6_isWithin : MethodName := ⟨RX6, "isWithin", "(III)Z"⟩
abbrev cX6_shelfAt : ByteArray := prog_1_method_57_code
def yX6_shelfAt : MethodName := ⟨RX6, "shelfAt", "(I)LSomebodyWill$Shelf;"⟩
abbrev cX6_shelvesInUse : ByteArray := prog_1_method_58_code
def yX6_shelvesInUse : MethodName := ⟨RX6, "shelvesInUse", "()I"⟩
abbrev cX6_streetWithSet : ByteArray := prog_1_method_59_code
def yX6_streetWithSet : MethodName := ⟨RX6, "streetWithSet", "(II)LSomebodyWill$Street;"⟩
abbrev cX6_isWayToldBy : ByteArray := prog_1_method_60_code
def yX6_isWayToldBy : MethodName := ⟨RX6, "isWayToldBy", "(II)Z"⟩
abbrev cX6_restBy : ByteArray := prog_1_method_61_code
def yX6_restBy : MethodName := ⟨RX6, "restBy", "(II)I"⟩
abbrev cX6_belowGood : ByteArray := prog_1_method_62_code
def yX6_belowGood : MethodName := ⟨RX6, "belowGood", "(II)I"⟩
abbrev cX6_isAlike : ByteArray := prog_1_method_63_code
def yX6_isAlike : MethodName := ⟨RX6, "isAlike", "(III)Z"⟩
abbrev cX6_greatestLot : ByteArray := prog_1_method_64_code
def yX6_greatestLot : MethodName := ⟨RX6, "greatestLot", "(III)I"⟩
abbrev cX6_power : ByteArray := prog_1_method_65_code
def yX6_power : MethodName := ⟨RX6, "power", "(JI)J"⟩
abbrev cX6_pairNumber : ByteArray := prog_1_method_66_code
def yX6_pairNumber : MethodName := ⟨RX6, "pairNumber", "(II)I"⟩
abbrev cX6_isCut : ByteArray := prog_1_method_67_code
def yX6_isCut : MethodName := ⟨RX6, "isCut", "(LSomebodyWill$Street;III)Z"⟩
abbrev cX6_isAdded : ByteArray := prog_1_method_68_code
def yX6_isAdded : MethodName := ⟨RX6, "isAdded", "(LSomebodyWill$Street;IIII)Z"⟩
abbrev cX6_isLessened : ByteArray := prog_1_method_69_code
def yX6_isLessened : MethodName := ⟨RX6, "isLessened", "(III)Z"⟩
abbrev cX6_isRota : ByteArray := prog_1_method_70_code
def yX6_isRota : MethodName := ⟨RX6, "isRota", "(LSomebodyWill$Street;LSomebodyWill$Shelf;I)Z"⟩
abbrev cX6_gainByLeaving : ByteArray := prog_1_method_71_code
def yX6_gainByLeaving : MethodName := ⟨RX6, "gainByLeaving", "(LSomebodyWill$Street;ILSomebodyWill$Shelf;I)I"⟩
def RX7 : String := "SomebodyWillModel"
def TX7 : u_T := fun k => match k with
  | 0 => ("SomebodyWillModel", "shelf", "[I", true)
  | 1 => ("SomebodyWillModel", "rowSort", "[I", true)
  | 2 => ("SomebodyWillModel", "rowSize", "[I", true)
  | 3 => ("SomebodyWillModel", "rows", "[[J", true)
  | 4 => ("SomebodyWillModel", "wayKind", "[I", true)
  | 5 => ("SomebodyWillModel", "wayBy", "[I", true)
  | 6 => ("SomebodyWillModel", "moved", "[J", true)
  | 7 => ("SomebodyWillModel", "tape", "[I", true)
  | 8 => ("SomebodyWillModel", "tapeSize", "I", false)
  | 9 => ("SomebodyWillModel", "refused", "[I", true)
  | 10 => ("SomebodyWillModel", "streets", "I", false)
  | 11 => ("SomebodyWillModel", "people", "[I", true)
  | 12 => ("SomebodyWillModel", "more", "[I", true)
  | 13 => ("SomebodyWillModel", "musts", "[I", true)
  | 14 => ("SomebodyWillModel", "cost", "[[I", true)
  | 15 => ("SomebodyWillModel", "worth", "[[I", true)
  | 16 => ("SomebodyWillModel", "near", "[[I", true)
  | 17 => ("SomebodyWillModel", "price", "[[I", true)
  | 18 => ("SomebodyWillModel", "kindOf", "[[I", true)
  | 19 => ("SomebodyWillModel", "byOf", "[[I", true)
  | 20 => ("SomebodyWillModel", "have", "[I", true)
  | 21 => ("SomebodyWillModel", "seed", "I", false)
  | 22 => ("SomebodyWillModel", "begun", "I", false)
  | 23 => ("SomebodyWillModel", "nextSet", "I", false)
  | 24 => ("SomebodyWillModel", "restsSeen", "I", false)
  | 25 => ("SomebodyWillModel", "lastRest", "I", false)
  | 26 => ("SomebodyWillModel", "kept", "LSomebodyWillModel;", false)
  | 27 => ("SomebodyWillModel", "at", "I", false)
  | 28 => ("SomebodyWillModel", "token", "I", false)
  | 29 => ("SomebodyWillModel", "from", "I", false)
  | 30 => ("SomebodyWillModel", "told", "J", false)
  | 31 => ("SomebodyWillModel", "fault", "I", false)
  | 32 => ("SomebodyWillModel", "number", "I", false)
  | 33 => ("SomebodyWillModel", "behind", "[I", true)
  | 34 => ("SomebodyWillModel", "ends", "I", false)
  | 35 => ("SomebodyWillModel", "changes", "I", false)
  | _ => ("SomebodyWillModel", "ringOf", "I", false)
def tyX7 : Nat → FieldType := fun k => match k with
  | 0 => .array .int
  | 1 => .array .int
  | 2 => .array .int
  | 3 => .array (.array .long)
  | 4 => .array .int
  | 5 => .array .int
  | 6 => .array .long
  | 7 => .array .int
  | 8 => .int
  | 9 => .array .int
  | 10 => .int
  | 11 => .array .int
  | 12 => .array .int
  | 13 => .array .int
  | 14 => .array (.array .int)
  | 15 => .array (.array .int)
  | 16 => .array (.array .int)
  | 17 => .array (.array .int)
  | 18 => .array (.array .int)
  | 19 => .array (.array .int)
  | 20 => .array .int
  | 21 => .int
  | 22 => .int
  | 23 => .int
  | 24 => .int
  | 25 => .int
  | 26 => .object "SomebodyWillModel"
  | 27 => .int
  | 28 => .int
  | 29 => .int
  | 30 => .long
  | 31 => .int
  | 32 => .int
  | 33 => .array .int
  | 34 => .int
  | 35 => .int
  | _ => .int
abbrev wsX70 : List Cond := u_ws RX7 TX7 37
theorem nmX7 : ∀ a, a < 37 → ∀ b, b < 37 → a ≠ b → (TX7 a).2.1 ≠ (TX7 b).2.1 := by decide +kernel
theorem tyX7_ok : ∀ k, k < 37 → parseFieldDescriptor (TX7 k).2.2.1 = some (tyX7 k) := by decide +kernel
abbrev cX7_init : ByteArray := prog_9_method_1_code
def yX7_init : MethodName := ⟨RX7, "<init>", "()V"⟩
abbrev cX7_refuse : ByteArray := prog_9_method_2_code
def yX7_refuse : MethodName := ⟨RX7, "refuse", "(I)I"⟩
abbrev cX7_in : ByteArray := prog_9_method_3_code
def yX7_in : MethodName := ⟨RX7, "in", "(JJJ)Z"⟩
abbrev cX7_isStreet : ByteArray := prog_9_method_4_code
def yX7_isStreet : MethodName := ⟨RX7, "isStreet", "(I)Z"⟩
abbrev cX7_isPerson : ByteArray := prog_9_method_5_code
def yX7_isPerson : MethodName := ⟨RX7, "isPerson", "(II)Z"⟩
abbrev cX7_isSet : ByteArray := prog_9_method_6_code
def yX7_isSet : MethodName := ⟨RX7, "isSet", "(IJ)Z"⟩
abbrev cX7_all : ByteArray := prog_9_method_7_code
def yX7_all : MethodName := ⟨RX7, "all", "(I)I"⟩
abbrev cX7_row : ByteArray := prog_9_method_8_code
def yX7_row : MethodName := ⟨RX7, "row", "(III)I"⟩
abbrev cX7_fit : ByteArray := prog_9_method_9_code
def yX7_fit : MethodName := ⟨RX7, "fit", "(IJ)J"⟩
abbrev cX7_set : ByteArray := prog_9_method_10_code
def yX7_set : MethodName := ⟨RX7, "set", "(IIJ)I"⟩
abbrev cX7_copy : ByteArray := prog_9_method_11_code
def yX7_copy : MethodName := ⟨RX7, "copy", "(IIIII)I"⟩
abbrev cX7_element : ByteArray := prog_9_method_12_code
def yX7_element : MethodName := ⟨RX7, "element", "(II)J"⟩
abbrev cX7_holds : ByteArray := prog_9_method_13_code
def yX7_holds : MethodName := ⟨RX7, "holds", "(I)I"⟩
abbrev cX7_mayBy : ByteArray := prog_9_method_14_code
def yX7_mayBy : MethodName := ⟨RX7, "mayBy", "(II)Z"⟩
abbrev cX7_way : ByteArray := prog_9_method_15_code
def yX7_way : MethodName := ⟨RX7, "way", "(III)I"⟩
abbrev cX7_isUnder : ByteArray := prog_9_method_16_code
def yX7_isUnder : MethodName := ⟨RX7, "isUnder", "(II)Z"⟩
abbrev cX7_says : ByteArray := prog_9_method_17_code
def yX7_says : MethodName := ⟨RX7, "says", "(II)I"⟩
abbrev cX7_feed : ByteArray := prog_9_method_18_code
def yX7_feed : MethodName := ⟨RX7, "feed", "(II)I"⟩
abbrev cX7_wipe : ByteArray := prog_9_method_19_code
def yX7_wipe : MethodName := ⟨RX7, "wipe", "()I"⟩
abbrev cX7_isLetter : ByteArray := prog_9_method_20_code
def yX7_isLetter : MethodName := ⟨RX7, "isLetter", "(I)Z"⟩
abbrev cX7_isDigit : ByteArray := prog_9_method_21_code
def yX7_isDigit : MethodName := ⟨RX7, "isDigit", "(I)Z"⟩
abbrev cX7_look : ByteArray := prog_9_method_22_code
def yX7_look : MethodName := ⟨RX7, "look", "()V"⟩
abbrev cX7_wrong : ByteArray := prog_9_method_23_code
def yX7_wrong : MethodName := ⟨RX7, "wrong", "()Z"⟩
abbrev cX7_isWord : ByteArray := prog_9_method_24_code
def yX7_isWord : MethodName := ⟨RX7, "isWord", "(Ljava/lang/String;)Z"⟩
abbrev cX7_word : ByteArray := prog_9_method_25_code
def yX7_word : MethodName := ⟨RX7, "word", "(Ljava/lang/String;)Z"⟩
abbrev cX7_number : ByteArray := prog_9_method_26_code
def yX7_number : MethodName := ⟨RX7, "number", "(II)Z"⟩
abbrev cX7_tieThem : ByteArray := prog_9_method_27_code
def yX7_tieThem : MethodName := ⟨RX7, "tieThem", "(IIII)V"⟩
abbrev cX7_tieNew : ByteArray := prog_9_method_28_code
def yX7_tieNew : MethodName := ⟨RX7, "tieNew", "(III)V"⟩
abbrev cX7_statement : ByteArray := prog_9_method_29_code
def yX7_statement : MethodName := ⟨RX7, "statement", "(I)Z"⟩
abbrev cX7_tieTold : ByteArray := prog_9_method_30_code
def yX7_tieTold : MethodName := ⟨RX7, "tieTold", "(II)Z"⟩
abbrev cX7_read : ByteArray := prog_9_method_31_code
def yX7_read : MethodName := ⟨RX7, "read", "(I)Z"⟩
abbrev cX7_empty : ByteArray := prog_9_method_32_code
def yX7_empty : MethodName := ⟨RX7, "empty", "(II)V"⟩
abbrev cX7_street : ByteArray := prog_9_method_33_code
def yX7_street : MethodName := ⟨RX7, "street", "()I"⟩
abbrev cX7_bits : ByteArray := prog_9_method_34_code
def yX7_bits : MethodName := ⟨RX7, "bits", "(I)I"⟩
abbrev cX7_pricesOf : ByteArray := prog_9_method_35_code
def yX7_pricesOf : MethodName := ⟨RX7, "pricesOf", "(II)I"⟩
abbrev cX7_streetOf : ByteArray := prog_9_method_36_code
def yX7_streetOf : MethodName := ⟨RX7, "streetOf", "(II)I"⟩
abbrev cX7_personOf : ByteArray := prog_9_method_37_code
def yX7_personOf : MethodName := ⟨RX7, "personOf", "(III)I"⟩
abbrev cX7_alter : ByteArray := prog_9_method_38_code
def yX7_alter : MethodName := ⟨RX7, "alter", "(IIII)I"⟩
abbrev cX7_tie : ByteArray := prog_9_method_39_code
def yX7_tie : MethodName := ⟨RX7, "tie", "(IIII)I"⟩
abbrev cX7_must : ByteArray := prog_9_method_40_code
def yX7_must : MethodName := ⟨RX7, "must", "(IIZ)I"⟩
abbrev cX7_take : ByteArray := prog_9_method_41_code
def yX7_take : MethodName := ⟨RX7, "take", "(III)I"⟩
abbrev cX7_come : ByteArray := prog_9_method_42_code
def yX7_come : MethodName := ⟨RX7, "come", "(IIII)I"⟩
abbrev cX7_gainOf : ByteArray := prog_9_method_43_code
def yX7_gainOf : MethodName := ⟨RX7, "gainOf", "(III)I"⟩
abbrev cX7_goodOf : ByteArray := prog_9_method_44_code
def yX7_goodOf : MethodName := ⟨RX7, "goodOf", "(II)I"⟩
abbrev cX7_would : ByteArray := prog_9_method_45_code
def yX7_would : MethodName := ⟨RX7, "would", "(III)Z"⟩
abbrev cX7_firstOf : ByteArray := prog_9_method_46_code
def yX7_firstOf : MethodName := ⟨RX7, "firstOf", "(II)I"⟩
abbrev cX7_gain : ByteArray := prog_9_method_47_code
def yX7_gain : MethodName := ⟨RX7, "gain", "(III)I"⟩
abbrev cX7_total : ByteArray := prog_9_method_48_code
def yX7_total : MethodName := ⟨RX7, "total", "(II)I"⟩
abbrev cX7_judge : ByteArray := prog_9_method_49_code
def yX7_judge : MethodName := ⟨RX7, "judge", "(II)I"⟩
abbrev cX7_isRest : ByteArray := prog_9_method_50_code
def yX7_isRest : MethodName := ⟨RX7, "isRest", "(II)Z"⟩
abbrev cX7_countRests : ByteArray := prog_9_method_51_code
def yX7_countRests : MethodName := ⟨RX7, "countRests", "(I)I"⟩
abbrev cX7_count : ByteArray := prog_9_method_52_code
def yX7_count : MethodName := ⟨RX7, "count", "(I)I"⟩
abbrev cX7_costOf : ByteArray := prog_9_method_53_code
def yX7_costOf : MethodName := ⟨RX7, "costOf", "(II)I"⟩
abbrev cX7_worthOf : ByteArray := prog_9_method_54_code
def yX7_worthOf : MethodName := ⟨RX7, "worthOf", "(III)I"⟩
abbrev cX7_seek : ByteArray := prog_9_method_55_code
def yX7_seek : MethodName := ⟨RX7, "seek", "(II)I"⟩
abbrev cX7_sought : ByteArray := prog_9_method_56_code
def yX7_sought : MethodName := ⟨RX7, "sought", "(II)I"⟩
abbrev cX7_rest : ByteArray := prog_9_method_57_code
def yX7_rest : MethodName := ⟨RX7, "rest", "(II)I"⟩
abbrev cX7_fewest : ByteArray := prog_9_method_58_code
def yX7_fewest : MethodName := ⟨RX7, "fewest", "(I)I"⟩
abbrev cX7_most : ByteArray := prog_9_method_59_code
def yX7_most : MethodName := ⟨RX7, "most", "(I)I"⟩
abbrev cX7_cheap : ByteArray := prog_9_method_60_code
def yX7_cheap : MethodName := ⟨RX7, "cheap", "(I)I"⟩
abbrev cX7_best : ByteArray := prog_9_method_61_code
def yX7_best : MethodName := ⟨RX7, "best", "(I)I"⟩
abbrev cX7_goodSet : ByteArray := prog_9_method_62_code
def yX7_goodSet : MethodName := ⟨RX7, "goodSet", "(I)I"⟩
abbrev cX7_good : ByteArray := prog_9_method_63_code
def yX7_good : MethodName := ⟨RX7, "good", "(I)I"⟩
abbrev cX7_below : ByteArray := prog_9_method_64_code
def yX7_below : MethodName := ⟨RX7, "below", "(II)I"⟩
abbrev cX7_lost : ByteArray := prog_9_method_65_code
def yX7_lost : MethodName := ⟨RX7, "lost", "(I)I"⟩
abbrev cX7_beside : ByteArray := prog_9_method_66_code
def yX7_beside : MethodName := ⟨RX7, "beside", "(I)I"⟩
abbrev cX7_inTurn : ByteArray := prog_9_method_67_code
def yX7_inTurn : MethodName := ⟨RX7, "inTurn", "(II)V"⟩
abbrev cX7_go : ByteArray := prog_9_method_68_code
def yX7_go : MethodName := ⟨RX7, "go", "(II)I"⟩
abbrev cX7_turns : ByteArray := prog_9_method_69_code
def yX7_turns : MethodName := ⟨RX7, "turns", "(II)I"⟩
abbrev cX7_ring : ByteArray := prog_9_method_70_code
def yX7_ring : MethodName := ⟨RX7, "ring", "(II)I"⟩
abbrev cX7_power : ByteArray := prog_9_method_71_code
def yX7_power : MethodName := ⟨RX7, "power", "(JI)J"⟩
abbrev cX7_areChances : ByteArray := prog_9_method_72_code
def yX7_areChances : MethodName := ⟨RX7, "areChances", "(III)Z"⟩
abbrev cX7_lotOf : ByteArray := prog_9_method_73_code
def yX7_lotOf : MethodName := ⟨RX7, "lotOf", "(III)I"⟩
abbrev cX7_lot : ByteArray := prog_9_method_74_code
def yX7_lot : MethodName := ⟨RX7, "lot", "(III)I"⟩
abbrev cX7_nobody : ByteArray := prog_9_method_75_code
def yX7_nobody : MethodName := ⟨RX7, "nobody", "(III)I"⟩
abbrev cX7_know : ByteArray := prog_9_method_76_code
def yX7_know : MethodName := ⟨RX7, "know", "(II)I"⟩
abbrev cX7_bar : ByteArray := prog_9_method_77_code
def yX7_bar : MethodName := ⟨RX7, "bar", "(II)I"⟩
abbrev cX7_cuts : ByteArray := prog_9_method_78_code
def yX7_cuts : MethodName := ⟨RX7, "cuts", "(II)I"⟩
abbrev cX7_adds : ByteArray := prog_9_method_79_code
def yX7_adds : MethodName := ⟨RX7, "adds", "(III)I"⟩
abbrev cX7_less : ByteArray := prog_9_method_80_code
def yX7_less : MethodName := ⟨RX7, "less", "(I)I"⟩
abbrev cX7_needOf : ByteArray := prog_9_method_81_code
def yX7_needOf : MethodName := ⟨RX7, "needOf", "(III)I"⟩
abbrev cX7_need : ByteArray := prog_9_method_82_code
def yX7_need : MethodName := ⟨RX7, "need", "(III)I"⟩
abbrev cX7_pay : ByteArray := prog_9_method_83_code
def yX7_pay : MethodName := ⟨RX7, "pay", "(II)I"⟩
abbrev cX7_few : ByteArray := prog_9_method_84_code
def yX7_few : MethodName := ⟨RX7, "few", "(II)I"⟩
abbrev cX7_rota : ByteArray := prog_9_method_85_code
def yX7_rota : MethodName := ⟨RX7, "rota", "(III)I"⟩
abbrev cX7_seed : ByteArray := prog_9_method_86_code
def yX7_seed : MethodName := ⟨RX7, "seed", "(I)I"⟩
abbrev cX7_draw : ByteArray := prog_9_method_87_code
def yX7_draw : MethodName := ⟨RX7, "draw", "(I)I"⟩
abbrev cX7_thousandths : ByteArray := prog_9_method_88_code
def yX7_thousandths : MethodName := ⟨RX7, "thousandths", "(III)I"⟩
abbrev cX7_doers : ByteArray := prog_9_method_89_code
def yX7_doers : MethodName := ⟨RX7, "doers", "(II)I"⟩
abbrev cX7_hourOf : ByteArray := prog_9_method_90_code
def yX7_hourOf : MethodName := ⟨RX7, "hourOf", "(III)I"⟩
abbrev cX7_light : ByteArray := prog_9_method_91_code
def yX7_light : MethodName := ⟨RX7, "light", "(II)I"⟩
abbrev cX7_late : ByteArray := prog_9_method_92_code
def yX7_late : MethodName := ⟨RX7, "late", "(II)I"⟩
abbrev cX7_over : ByteArray := prog_9_method_93_code
def yX7_over : MethodName := ⟨RX7, "over", "([I[I)V"⟩
abbrev cX7_begin : ByteArray := prog_9_method_94_code
def yX7_begin : MethodName := ⟨RX7, "begin", "(I)I"⟩
abbrev cX7_isDone : ByteArray := prog_9_method_95_code
def yX7_isDone : MethodName := ⟨RX7, "isDone", "()Z"⟩
abbrev cX7_step : ByteArray := prog_9_method_96_code
def yX7_step : MethodName := ⟨RX7, "step", "(I)I"⟩
abbrev cX7_search : ByteArray := prog_9_method_97_code
def yX7_search : MethodName := ⟨RX7, "search", "(I)I"⟩
abbrev cX7_takeFrom : ByteArray := prog_9_method_98_code
def yX7_takeFrom : MethodName := ⟨RX7, "takeFrom", "(LSomebodyWillModel;)V"⟩
abbrev cX7_image : ByteArray := prog_9_method_99_code
def yX7_image : MethodName := ⟨RX7, "image", "()I"⟩
abbrev cX7_back : ByteArray := prog_9_method_100_code
def yX7_back : MethodName := ⟨RX7, "back", "()I"⟩
abbrev cX7_status : ByteArray := prog_9_method_101_code
def yX7_status : MethodName := ⟨RX7, "status", "(I)I"⟩
def RJ6 : String := "java/lang/Integer"
abbrev cJ6_bitCount_0f7a4 : ByteArray := prog_10_method_49_code
def yJ6_bitCount_0f7a4 : MethodName := ⟨RJ6, "bitCount", "(I)I"⟩
def RJ0 : String := "java/lang/String"
abbrev cJ0_length_8abf5 : ByteArray := prog_11_method_54_code
def yJ0_length_8abf5 : MethodName := ⟨RJ0, "length", "()I"⟩
abbrev cJ0_charAt_5068e : ByteArray := prog_11_method_56_code
def yJ0_charAt_5068e : MethodName := ⟨RJ0, "charAt", "(I)C"⟩
abbrev cJ0_coder_7d493 : ByteArray := prog_11_method_152_code
def yJ0_coder_7d493 : MethodName := ⟨RJ0, "coder", "()B"⟩
abbrev cJ0_isLatin1_aae02 : ByteArray := prog_11_method_154_code
def yJ0_isLatin1_aae02 : MethodName := ⟨RJ0, "isLatin1", "()Z"⟩
abbrev cJ0_checkIndex_df160 : ByteArray := prog_11_method_155_code
def yJ0_checkIndex_df160 : MethodName := ⟨RJ0, "checkIndex", "(II)V"⟩
def RJ1 : String := "java/lang/StringLatin1"
abbrev cJ1_charAt_3b067 : ByteArray := prog_12_method_2_code
def yJ1_charAt_3b067 : MethodName := ⟨RJ1, "charAt", "([BI)C"⟩
def RJ2 : String := "java/lang/StringUTF16"
abbrev cJ2_getChar_3b067 : ByteArray := prog_13_method_5_code
def yJ2_getChar_3b067 : MethodName := ⟨RJ2, "getChar", "([BI)C"⟩
abbrev cJ2_length_9d52b : ByteArray := prog_13_method_6_code
def yJ2_length_9d52b : MethodName := ⟨RJ2, "length", "([B)I"⟩
abbrev cJ2_charAt_3b067 : ByteArray := prog_13_method_83_code
def yJ2_charAt_3b067 : MethodName := ⟨RJ2, "charAt", "([BI)C"⟩
abbrev cJ2_checkIndex_2214a : ByteArray := prog_13_method_91_code
def yJ2_checkIndex_2214a : MethodName := ⟨RJ2, "checkIndex", "(I[B)V"⟩
def RJ10 : String := "java/lang/System"
def RJ7 : String := "java/util/Arrays"
abbrev cJ7_fill_d0a16 : ByteArray := prog_15_method_101_code
def yJ7_fill_d0a16 : MethodName := ⟨RJ7, "fill", "([JJ)V"⟩
abbrev cJ7_fill_53178 : ByteArray := prog_15_method_103_code
def yJ7_fill_53178 : MethodName := ⟨RJ7, "fill", "([II)V"⟩
def RJ3 : String := "jdk/internal/util/Preconditions"
abbrev cJ3_checkIndex_8e157 : ByteArray := prog_16_method_11_code
def yJ3_checkIndex_8e157 : MethodName := ⟨RJ3, "checkIndex", "(IILjava/util/function/BiFunction;)I"⟩
def RL : String := "SomebodyWillLaw"
abbrev cL_law : ByteArray := code
def yL_law : MethodName := ⟨RL, "law", "([I)Z"⟩
abbrev vwCl : List vw_C := [(RX0, TX0, 4), (RX1, TX1, 6), (RX2, TX2, 6), (RX3, TX3, 4), (RX4, TX4, 10), (RX5, TX5, 5), (RX6, TX6, 8), (RX7, TX7, 37)]

