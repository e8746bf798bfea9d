-- ===== PART A: goes FIRST, ahead of the names: the tables' words, and 'selects' of the private methods out of them =====
/-- a private method of a class that the tables say can be made, by its rows of tables_1 -/
def lw_okq (q : MethodName × Nat) : Prop := (q.1.cls ≠ "java/lang/invoke/MethodHandle" ∧ q.1.cls ≠ "java/lang/invoke/VarHandle") ∧ Cond.instantiable q.1.cls q.2 ∈ tables_1 ∧ Cond.privateMethod q.1 ∈ tables_1 ∧ Cond.instanceMethod q.1 ∈ tables_1
theorem lw_p0 : lw_okq (⟨"SomebodyWill$Town", "streetAt", "(I)LSomebodyWill$Street;"⟩, 5) := ⟨⟨by decide +kernel, by decide +kernel⟩, List.mem_of_getElem? (i := 54) (by decide +kernel), List.mem_of_getElem? (i := 230) (by decide +kernel), List.mem_of_getElem? (i := 231) (by decide +kernel)⟩
theorem lw_p1 : lw_okq (⟨"SomebodyWill", "refuse", "(I)I"⟩, 8) := ⟨⟨by decide +kernel, by decide +kernel⟩, List.mem_of_getElem? (i := 16) (by decide +kernel), List.mem_of_getElem? (i := 234) (by decide +kernel), List.mem_of_getElem? (i := 235) (by decide +kernel)⟩
theorem lw_p2 : lw_okq (⟨"SomebodyWill$Street", "ties", "()I"⟩, 10) := ⟨⟨by decide +kernel, by decide +kernel⟩, List.mem_of_getElem? (i := 68) (by decide +kernel), List.mem_of_getElem? (i := 238) (by decide +kernel), List.mem_of_getElem? (i := 239) (by decide +kernel)⟩
theorem lw_p3 : lw_okq (⟨"SomebodyWill$Street", "prices", "()I"⟩, 10) := ⟨⟨by decide +kernel, by decide +kernel⟩, List.mem_of_getElem? (i := 68) (by decide +kernel), List.mem_of_getElem? (i := 248) (by decide +kernel), List.mem_of_getElem? (i := 249) (by decide +kernel)⟩
theorem lw_p4 : lw_okq (⟨"SomebodyWill$Street", "lightAfter", "(II)I"⟩, 10) := ⟨⟨by decide +kernel, by decide +kernel⟩, List.mem_of_getElem? (i := 68) (by decide +kernel), List.mem_of_getElem? (i := 260) (by decide +kernel), List.mem_of_getElem? (i := 261) (by decide +kernel)⟩
theorem lw_p5 : lw_okq (⟨"SomebodyWill$Street", "chanceOf", "(II)I"⟩, 10) := ⟨⟨by decide +kernel, by decide +kernel⟩, List.mem_of_getElem? (i := 68) (by decide +kernel), List.mem_of_getElem? (i := 264) (by decide +kernel), List.mem_of_getElem? (i := 265) (by decide +kernel)⟩
theorem lw_p6 : lw_okq (⟨"SomebodyWill$Street", "isMust", "(I)Z"⟩, 10) := ⟨⟨by decide +kernel, by decide +kernel⟩, List.mem_of_getElem? (i := 68) (by decide +kernel), List.mem_of_getElem? (i := 268) (by decide +kernel), List.mem_of_getElem? (i := 269) (by decide +kernel)⟩
theorem lw_p7 : lw_okq (⟨"SomebodyWill$Street", "doesSurely", "(II)Z"⟩, 10) := ⟨⟨by decide +kernel, by decide +kernel⟩, List.mem_of_getElem? (i := 68) (by decide +kernel), List.mem_of_getElem? (i := 275) (by decide +kernel), List.mem_of_getElem? (i := 276) (by decide +kernel)⟩
theorem lw_p8 : lw_okq (⟨"SomebodyWill$Street", "edge", "(II)I"⟩, 10) := ⟨⟨by decide +kernel, by decide +kernel⟩, List.mem_of_getElem? (i := 68) (by decide +kernel), List.mem_of_getElem? (i := 279) (by decide +kernel), List.mem_of_getElem? (i := 280) (by decide +kernel)⟩
theorem lw_p9 : lw_okq (⟨"SomebodyWill", "shelvesInUse", "()I"⟩, 8) := ⟨⟨by decide +kernel, by decide +kernel⟩, List.mem_of_getElem? (i := 16) (by decide +kernel), List.mem_of_getElem? (i := 287) (by decide +kernel), List.mem_of_getElem? (i := 288) (by decide +kernel)⟩
theorem lw_p10 : lw_okq (⟨"SomebodyWill$Reader", "append", "(I)V"⟩, 6) := ⟨⟨by decide +kernel, by decide +kernel⟩, List.mem_of_getElem? (i := 26) (by decide +kernel), List.mem_of_getElem? (i := 357) (by decide +kernel), List.mem_of_getElem? (i := 358) (by decide +kernel)⟩
theorem lw_p11 : lw_okq (⟨"SomebodyWill$Town", "placeForNext", "()LSomebodyWill$Street;"⟩, 5) := ⟨⟨by decide +kernel, by decide +kernel⟩, List.mem_of_getElem? (i := 54) (by decide +kernel), List.mem_of_getElem? (i := 380) (by decide +kernel), List.mem_of_getElem? (i := 381) (by decide +kernel)⟩
theorem lw_p12 : lw_okq (⟨"SomebodyWill$Reader", "readStreet", "(LSomebodyWill$Street;)Z"⟩, 6) := ⟨⟨by decide +kernel, by decide +kernel⟩, List.mem_of_getElem? (i := 26) (by decide +kernel), List.mem_of_getElem? (i := 384) (by decide +kernel), List.mem_of_getElem? (i := 385) (by decide +kernel)⟩
theorem lw_p13 : lw_okq (⟨"SomebodyWill$Reader", "advance", "()V"⟩, 6) := ⟨⟨by decide +kernel, by decide +kernel⟩, List.mem_of_getElem? (i := 26) (by decide +kernel), List.mem_of_getElem? (i := 388) (by decide +kernel), List.mem_of_getElem? (i := 389) (by decide +kernel)⟩
theorem lw_p14 : lw_okq (⟨"SomebodyWill$Reader", "passWord", "(Ljava/lang/String;)Z"⟩, 6) := ⟨⟨by decide +kernel, by decide +kernel⟩, List.mem_of_getElem? (i := 26) (by decide +kernel), List.mem_of_getElem? (i := 396) (by decide +kernel), List.mem_of_getElem? (i := 397) (by decide +kernel)⟩
theorem lw_p15 : lw_okq (⟨"SomebodyWill$Reader", "isWord", "(Ljava/lang/String;)Z"⟩, 6) := ⟨⟨by decide +kernel, by decide +kernel⟩, List.mem_of_getElem? (i := 26) (by decide +kernel), List.mem_of_getElem? (i := 400) (by decide +kernel), List.mem_of_getElem? (i := 401) (by decide +kernel)⟩
def lw_privs_1 : List (MethodName × Nat) := [(⟨"SomebodyWill$Town", "streetAt", "(I)LSomebodyWill$Street;"⟩, 5), (⟨"SomebodyWill", "refuse", "(I)I"⟩, 8), (⟨"SomebodyWill$Street", "ties", "()I"⟩, 10), (⟨"SomebodyWill$Street", "prices", "()I"⟩, 10), (⟨"SomebodyWill$Street", "lightAfter", "(II)I"⟩, 10), (⟨"SomebodyWill$Street", "chanceOf", "(II)I"⟩, 10), (⟨"SomebodyWill$Street", "isMust", "(I)Z"⟩, 10), (⟨"SomebodyWill$Street", "doesSurely", "(II)Z"⟩, 10), (⟨"SomebodyWill$Street", "edge", "(II)I"⟩, 10), (⟨"SomebodyWill", "shelvesInUse", "()I"⟩, 8), (⟨"SomebodyWill$Reader", "append", "(I)V"⟩, 6), (⟨"SomebodyWill$Town", "placeForNext", "()LSomebodyWill$Street;"⟩, 5), (⟨"SomebodyWill$Reader", "readStreet", "(LSomebodyWill$Street;)Z"⟩, 6), (⟨"SomebodyWill$Reader", "advance", "()V"⟩, 6), (⟨"SomebodyWill$Reader", "passWord", "(Ljava/lang/String;)Z"⟩, 6), (⟨"SomebodyWill$Reader", "isWord", "(Ljava/lang/String;)Z"⟩, 6)]
theorem lw_r1 : ∀ q ∈ lw_privs_1, lw_okq q := List.forall_mem_cons.mpr ⟨lw_p0, List.forall_mem_cons.mpr ⟨lw_p1, List.forall_mem_cons.mpr ⟨lw_p2, List.forall_mem_cons.mpr ⟨lw_p3, List.forall_mem_cons.mpr ⟨lw_p4, List.forall_mem_cons.mpr ⟨lw_p5, List.forall_mem_cons.mpr ⟨lw_p6, List.forall_mem_cons.mpr ⟨lw_p7, List.forall_mem_cons.mpr ⟨lw_p8, List.forall_mem_cons.mpr ⟨lw_p9, List.forall_mem_cons.mpr ⟨lw_p10, List.forall_mem_cons.mpr ⟨lw_p11, List.forall_mem_cons.mpr ⟨lw_p12, List.forall_mem_cons.mpr ⟨lw_p13, List.forall_mem_cons.mpr ⟨lw_p14, List.forall_mem_cons.mpr ⟨lw_p15, fun _ h => absurd h List.not_mem_nil⟩⟩⟩⟩⟩⟩⟩⟩⟩⟩⟩⟩⟩⟩⟩⟩
theorem lw_p16 : lw_okq (⟨"SomebodyWill$Reader", "passNumber", "(II)Z"⟩, 6) := ⟨⟨by decide +kernel, by decide +kernel⟩, List.mem_of_getElem? (i := 26) (by decide +kernel), List.mem_of_getElem? (i := 406) (by decide +kernel), List.mem_of_getElem? (i := 407) (by decide +kernel)⟩
theorem lw_p17 : lw_okq (⟨"SomebodyWill$Reader", "numberAtHand", "()I"⟩, 6) := ⟨⟨by decide +kernel, by decide +kernel⟩, List.mem_of_getElem? (i := 26) (by decide +kernel), List.mem_of_getElem? (i := 410) (by decide +kernel), List.mem_of_getElem? (i := 411) (by decide +kernel)⟩
theorem lw_p18 : lw_okq (⟨"SomebodyWill$Street", "clear", "(I)V"⟩, 10) := ⟨⟨by decide +kernel, by decide +kernel⟩, List.mem_of_getElem? (i := 68) (by decide +kernel), List.mem_of_getElem? (i := 414) (by decide +kernel), List.mem_of_getElem? (i := 415) (by decide +kernel)⟩
theorem lw_p19 : lw_okq (⟨"SomebodyWill$Reader", "readStatement", "(LSomebodyWill$Street;)Z"⟩, 6) := ⟨⟨by decide +kernel, by decide +kernel⟩, List.mem_of_getElem? (i := 26) (by decide +kernel), List.mem_of_getElem? (i := 421) (by decide +kernel), List.mem_of_getElem? (i := 422) (by decide +kernel)⟩
theorem lw_p20 : lw_okq (⟨"SomebodyWill$Reader", "readForAll", "([I)Z"⟩, 6) := ⟨⟨by decide +kernel, by decide +kernel⟩, List.mem_of_getElem? (i := 26) (by decide +kernel), List.mem_of_getElem? (i := 426) (by decide +kernel), List.mem_of_getElem? (i := 427) (by decide +kernel)⟩
theorem lw_p21 : lw_okq (⟨"SomebodyWill$Reader", "readMore", "(LSomebodyWill$Street;)Z"⟩, 6) := ⟨⟨by decide +kernel, by decide +kernel⟩, List.mem_of_getElem? (i := 26) (by decide +kernel), List.mem_of_getElem? (i := 433) (by decide +kernel), List.mem_of_getElem? (i := 434) (by decide +kernel)⟩
theorem lw_p22 : lw_okq (⟨"SomebodyWill$Reader", "readOne", "(LSomebodyWill$Street;)Z"⟩, 6) := ⟨⟨by decide +kernel, by decide +kernel⟩, List.mem_of_getElem? (i := 26) (by decide +kernel), List.mem_of_getElem? (i := 438) (by decide +kernel), List.mem_of_getElem? (i := 439) (by decide +kernel)⟩
theorem lw_p23 : lw_okq (⟨"SomebodyWill$Street", "value", "(III)V"⟩, 10) := ⟨⟨by decide +kernel, by decide +kernel⟩, List.mem_of_getElem? (i := 68) (by decide +kernel), List.mem_of_getElem? (i := 442) (by decide +kernel), List.mem_of_getElem? (i := 443) (by decide +kernel)⟩
theorem lw_p24 : lw_okq (⟨"SomebodyWill$Street", "hasPerson", "(I)Z"⟩, 10) := ⟨⟨by decide +kernel, by decide +kernel⟩, List.mem_of_getElem? (i := 68) (by decide +kernel), List.mem_of_getElem? (i := 446) (by decide +kernel), List.mem_of_getElem? (i := 447) (by decide +kernel)⟩
theorem lw_p25 : lw_okq (⟨"SomebodyWill$Reader", "readTie", "(LSomebodyWill$Street;)Z"⟩, 6) := ⟨⟨by decide +kernel, by decide +kernel⟩, List.mem_of_getElem? (i := 26) (by decide +kernel), List.mem_of_getElem? (i := 451) (by decide +kernel), List.mem_of_getElem? (i := 452) (by decide +kernel)⟩
theorem lw_p26 : lw_okq (⟨"SomebodyWill$Street", "join", "(III)V"⟩, 10) := ⟨⟨by decide +kernel, by decide +kernel⟩, List.mem_of_getElem? (i := 68) (by decide +kernel), List.mem_of_getElem? (i := 456) (by decide +kernel), List.mem_of_getElem? (i := 457) (by decide +kernel)⟩
theorem lw_p27 : lw_okq (⟨"SomebodyWill$Street", "hasPair", "(II)Z"⟩, 10) := ⟨⟨by decide +kernel, by decide +kernel⟩, List.mem_of_getElem? (i := 68) (by decide +kernel), List.mem_of_getElem? (i := 460) (by decide +kernel), List.mem_of_getElem? (i := 461) (by decide +kernel)⟩
theorem lw_p28 : lw_okq (⟨"SomebodyWill$Street", "priceAt", "(III)V"⟩, 10) := ⟨⟨by decide +kernel, by decide +kernel⟩, List.mem_of_getElem? (i := 68) (by decide +kernel), List.mem_of_getElem? (i := 464) (by decide +kernel), List.mem_of_getElem? (i := 465) (by decide +kernel)⟩
theorem lw_p29 : lw_okq (⟨"SomebodyWill$Reader", "readMust", "(LSomebodyWill$Street;)Z"⟩, 6) := ⟨⟨by decide +kernel, by decide +kernel⟩, List.mem_of_getElem? (i := 26) (by decide +kernel), List.mem_of_getElem? (i := 469) (by decide +kernel), List.mem_of_getElem? (i := 470) (by decide +kernel)⟩
theorem lw_p30 : lw_okq (⟨"SomebodyWill$Street", "setMust", "(IZ)V"⟩, 10) := ⟨⟨by decide +kernel, by decide +kernel⟩, List.mem_of_getElem? (i := 68) (by decide +kernel), List.mem_of_getElem? (i := 473) (by decide +kernel), List.mem_of_getElem? (i := 474) (by decide +kernel)⟩
theorem lw_p31 : lw_okq (⟨"SomebodyWill$Street", "joinNeighbours", "()V"⟩, 10) := ⟨⟨by decide +kernel, by decide +kernel⟩, List.mem_of_getElem? (i := 68) (by decide +kernel), List.mem_of_getElem? (i := 478) (by decide +kernel), List.mem_of_getElem? (i := 479) (by decide +kernel)⟩
def lw_privs_2 : List (MethodName × Nat) := [(⟨"SomebodyWill$Reader", "passNumber", "(II)Z"⟩, 6), (⟨"SomebodyWill$Reader", "numberAtHand", "()I"⟩, 6), (⟨"SomebodyWill$Street", "clear", "(I)V"⟩, 10), (⟨"SomebodyWill$Reader", "readStatement", "(LSomebodyWill$Street;)Z"⟩, 6), (⟨"SomebodyWill$Reader", "readForAll", "([I)Z"⟩, 6), (⟨"SomebodyWill$Reader", "readMore", "(LSomebodyWill$Street;)Z"⟩, 6), (⟨"SomebodyWill$Reader", "readOne", "(LSomebodyWill$Street;)Z"⟩, 6), (⟨"SomebodyWill$Street", "value", "(III)V"⟩, 10), (⟨"SomebodyWill$Street", "hasPerson", "(I)Z"⟩, 10), (⟨"SomebodyWill$Reader", "readTie", "(LSomebodyWill$Street;)Z"⟩, 6), (⟨"SomebodyWill$Street", "join", "(III)V"⟩, 10), (⟨"SomebodyWill$Street", "hasPair", "(II)Z"⟩, 10), (⟨"SomebodyWill$Street", "priceAt", "(III)V"⟩, 10), (⟨"SomebodyWill$Reader", "readMust", "(LSomebodyWill$Street;)Z"⟩, 6), (⟨"SomebodyWill$Street", "setMust", "(IZ)V"⟩, 10), (⟨"SomebodyWill$Street", "joinNeighbours", "()V"⟩, 10)]
theorem lw_r2 : ∀ q ∈ lw_privs_2, lw_okq q := List.forall_mem_cons.mpr ⟨lw_p16, List.forall_mem_cons.mpr ⟨lw_p17, List.forall_mem_cons.mpr ⟨lw_p18, List.forall_mem_cons.mpr ⟨lw_p19, List.forall_mem_cons.mpr ⟨lw_p20, List.forall_mem_cons.mpr ⟨lw_p21, List.forall_mem_cons.mpr ⟨lw_p22, List.forall_mem_cons.mpr ⟨lw_p23, List.forall_mem_cons.mpr ⟨lw_p24, List.forall_mem_cons.mpr ⟨lw_p25, List.forall_mem_cons.mpr ⟨lw_p26, List.forall_mem_cons.mpr ⟨lw_p27, List.forall_mem_cons.mpr ⟨lw_p28, List.forall_mem_cons.mpr ⟨lw_p29, List.forall_mem_cons.mpr ⟨lw_p30, List.forall_mem_cons.mpr ⟨lw_p31, fun _ h => absurd h List.not_mem_nil⟩⟩⟩⟩⟩⟩⟩⟩⟩⟩⟩⟩⟩⟩⟩⟩
theorem lw_p32 : lw_okq (⟨"SomebodyWill$Street", "areNear", "(II)Z"⟩, 10) := ⟨⟨by decide +kernel, by decide +kernel⟩, List.mem_of_getElem? (i := 68) (by decide +kernel), List.mem_of_getElem? (i := 482) (by decide +kernel), List.mem_of_getElem? (i := 483) (by decide +kernel)⟩
theorem lw_p33 : lw_okq (⟨"SomebodyWill$Street", "joinAll", "()V"⟩, 10) := ⟨⟨by decide +kernel, by decide +kernel⟩, List.mem_of_getElem? (i := 68) (by decide +kernel), List.mem_of_getElem? (i := 488) (by decide +kernel), List.mem_of_getElem? (i := 489) (by decide +kernel)⟩
theorem lw_p34 : lw_okq (⟨"SomebodyWill$Reader", "empty", "()V"⟩, 6) := ⟨⟨by decide +kernel, by decide +kernel⟩, List.mem_of_getElem? (i := 26) (by decide +kernel), List.mem_of_getElem? (i := 492) (by decide +kernel), List.mem_of_getElem? (i := 493) (by decide +kernel)⟩
theorem lw_p35 : lw_okq (⟨"SomebodyWill$Street", "priceOf", "(II)I"⟩, 10) := ⟨⟨by decide +kernel, by decide +kernel⟩, List.mem_of_getElem? (i := 68) (by decide +kernel), List.mem_of_getElem? (i := 506) (by decide +kernel), List.mem_of_getElem? (i := 507) (by decide +kernel)⟩
theorem lw_p36 : lw_okq (⟨"SomebodyWill$Street", "part", "(II)V"⟩, 10) := ⟨⟨by decide +kernel, by decide +kernel⟩, List.mem_of_getElem? (i := 68) (by decide +kernel), List.mem_of_getElem? (i := 510) (by decide +kernel), List.mem_of_getElem? (i := 511) (by decide +kernel)⟩
theorem lw_p37 : lw_okq (⟨"SomebodyWill", "shelfAt", "(I)LSomebodyWill$Shelf;"⟩, 8) := ⟨⟨by decide +kernel, by decide +kernel⟩, List.mem_of_getElem? (i := 16) (by decide +kernel), List.mem_of_getElem? (i := 525) (by decide +kernel), List.mem_of_getElem? (i := 526) (by decide +kernel)⟩
theorem lw_p38 : lw_okq (⟨"SomebodyWill$Shelf", "putRow", "(II)V"⟩, 4) := ⟨⟨by decide +kernel, by decide +kernel⟩, List.mem_of_getElem? (i := 180) (by decide +kernel), List.mem_of_getElem? (i := 529) (by decide +kernel), List.mem_of_getElem? (i := 530) (by decide +kernel)⟩
theorem lw_p39 : lw_okq (⟨"SomebodyWill$Shelf", "isWay", "()Z"⟩, 4) := ⟨⟨by decide +kernel, by decide +kernel⟩, List.mem_of_getElem? (i := 180) (by decide +kernel), List.mem_of_getElem? (i := 540) (by decide +kernel), List.mem_of_getElem? (i := 541) (by decide +kernel)⟩
theorem lw_p40 : lw_okq (⟨"SomebodyWill$Shelf", "isRow", "()Z"⟩, 4) := ⟨⟨by decide +kernel, by decide +kernel⟩, List.mem_of_getElem? (i := 180) (by decide +kernel), List.mem_of_getElem? (i := 544) (by decide +kernel), List.mem_of_getElem? (i := 545) (by decide +kernel)⟩
theorem lw_p41 : lw_okq (⟨"SomebodyWill$Shelf", "hasPlaces", "(II)Z"⟩, 4) := ⟨⟨by decide +kernel, by decide +kernel⟩, List.mem_of_getElem? (i := 180) (by decide +kernel), List.mem_of_getElem? (i := 548) (by decide +kernel), List.mem_of_getElem? (i := 549) (by decide +kernel)⟩
theorem lw_p42 : lw_okq (⟨"SomebodyWill$Shelf", "put", "(IJ)V"⟩, 4) := ⟨⟨by decide +kernel, by decide +kernel⟩, List.mem_of_getElem? (i := 180) (by decide +kernel), List.mem_of_getElem? (i := 552) (by decide +kernel), List.mem_of_getElem? (i := 553) (by decide +kernel)⟩
theorem lw_p43 : lw_okq (⟨"SomebodyWill$Shelf", "putWay", "(II)V"⟩, 4) := ⟨⟨by decide +kernel, by decide +kernel⟩, List.mem_of_getElem? (i := 180) (by decide +kernel), List.mem_of_getElem? (i := 563) (by decide +kernel), List.mem_of_getElem? (i := 564) (by decide +kernel)⟩
theorem lw_p44 : lw_okq (⟨"SomebodyWill$Shelf", "toldSet", "()I"⟩, 4) := ⟨⟨by decide +kernel, by decide +kernel⟩, List.mem_of_getElem? (i := 180) (by decide +kernel), List.mem_of_getElem? (i := 567) (by decide +kernel), List.mem_of_getElem? (i := 568) (by decide +kernel)⟩
theorem lw_p45 : lw_okq (⟨"SomebodyWill$Shelf", "told", "(I)J"⟩, 4) := ⟨⟨by decide +kernel, by decide +kernel⟩, List.mem_of_getElem? (i := 180) (by decide +kernel), List.mem_of_getElem? (i := 571) (by decide +kernel), List.mem_of_getElem? (i := 572) (by decide +kernel)⟩
theorem lw_p46 : lw_okq (⟨"SomebodyWill$Street", "giveWay", "(III)V"⟩, 10) := ⟨⟨by decide +kernel, by decide +kernel⟩, List.mem_of_getElem? (i := 68) (by decide +kernel), List.mem_of_getElem? (i := 581) (by decide +kernel), List.mem_of_getElem? (i := 582) (by decide +kernel)⟩
theorem lw_p47 : lw_okq (⟨"SomebodyWill$Shelf", "wayKind", "()I"⟩, 4) := ⟨⟨by decide +kernel, by decide +kernel⟩, List.mem_of_getElem? (i := 180) (by decide +kernel), List.mem_of_getElem? (i := 585) (by decide +kernel), List.mem_of_getElem? (i := 586) (by decide +kernel)⟩
def lw_privs_3 : List (MethodName × Nat) := [(⟨"SomebodyWill$Street", "areNear", "(II)Z"⟩, 10), (⟨"SomebodyWill$Street", "joinAll", "()V"⟩, 10), (⟨"SomebodyWill$Reader", "empty", "()V"⟩, 6), (⟨"SomebodyWill$Street", "priceOf", "(II)I"⟩, 10), (⟨"SomebodyWill$Street", "part", "(II)V"⟩, 10), (⟨"SomebodyWill", "shelfAt", "(I)LSomebodyWill$Shelf;"⟩, 8), (⟨"SomebodyWill$Shelf", "putRow", "(II)V"⟩, 4), (⟨"SomebodyWill$Shelf", "isWay", "()Z"⟩, 4), (⟨"SomebodyWill$Shelf", "isRow", "()Z"⟩, 4), (⟨"SomebodyWill$Shelf", "hasPlaces", "(II)Z"⟩, 4), (⟨"SomebodyWill$Shelf", "put", "(IJ)V"⟩, 4), (⟨"SomebodyWill$Shelf", "putWay", "(II)V"⟩, 4), (⟨"SomebodyWill$Shelf", "toldSet", "()I"⟩, 4), (⟨"SomebodyWill$Shelf", "told", "(I)J"⟩, 4), (⟨"SomebodyWill$Street", "giveWay", "(III)V"⟩, 10), (⟨"SomebodyWill$Shelf", "wayKind", "()I"⟩, 4)]
theorem lw_r3 : ∀ q ∈ lw_privs_3, lw_okq q := List.forall_mem_cons.mpr ⟨lw_p32, List.forall_mem_cons.mpr ⟨lw_p33, List.forall_mem_cons.mpr ⟨lw_p34, List.forall_mem_cons.mpr ⟨lw_p35, List.forall_mem_cons.mpr ⟨lw_p36, List.forall_mem_cons.mpr ⟨lw_p37, List.forall_mem_cons.mpr ⟨lw_p38, List.forall_mem_cons.mpr ⟨lw_p39, List.forall_mem_cons.mpr ⟨lw_p40, List.forall_mem_cons.mpr ⟨lw_p41, List.forall_mem_cons.mpr ⟨lw_p42, List.forall_mem_cons.mpr ⟨lw_p43, List.forall_mem_cons.mpr ⟨lw_p44, List.forall_mem_cons.mpr ⟨lw_p45, List.forall_mem_cons.mpr ⟨lw_p46, List.forall_mem_cons.mpr ⟨lw_p47, fun _ h => absurd h List.not_mem_nil⟩⟩⟩⟩⟩⟩⟩⟩⟩⟩⟩⟩⟩⟩⟩⟩
theorem lw_p48 : lw_okq (⟨"SomebodyWill$Street", "hasSet", "(I)Z"⟩, 10) := ⟨⟨by decide +kernel, by decide +kernel⟩, List.mem_of_getElem? (i := 68) (by decide +kernel), List.mem_of_getElem? (i := 593) (by decide +kernel), List.mem_of_getElem? (i := 594) (by decide +kernel)⟩
theorem lw_p49 : lw_okq (⟨"SomebodyWill$Street", "sets", "()I"⟩, 10) := ⟨⟨by decide +kernel, by decide +kernel⟩, List.mem_of_getElem? (i := 68) (by decide +kernel), List.mem_of_getElem? (i := 597) (by decide +kernel), List.mem_of_getElem? (i := 598) (by decide +kernel)⟩
theorem lw_p50 : lw_okq (⟨"SomebodyWill$Street", "\x61dmit", "(III)I"⟩, 10) := ⟨⟨by decide +kernel, by decide +kernel⟩, List.mem_of_getElem? (i := 68) (by decide +kernel), List.mem_of_getElem? (i := 601) (by decide +kernel), List.mem_of_getElem? (i := 602) (by decide +kernel)⟩
theorem lw_p51 : lw_okq (⟨"SomebodyWill$Search", "start", "(LSomebodyWill$Street;I)V"⟩, 6) := ⟨⟨by decide +kernel, by decide +kernel⟩, List.mem_of_getElem? (i := 62) (by decide +kernel), List.mem_of_getElem? (i := 611) (by decide +kernel), List.mem_of_getElem? (i := 612) (by decide +kernel)⟩
theorem lw_p52 : lw_okq (⟨"SomebodyWill$Street", "become", "(LSomebodyWill$Street;)V"⟩, 10) := ⟨⟨by decide +kernel, by decide +kernel⟩, List.mem_of_getElem? (i := 68) (by decide +kernel), List.mem_of_getElem? (i := 615) (by decide +kernel), List.mem_of_getElem? (i := 616) (by decide +kernel)⟩
theorem lw_p53 : lw_okq (⟨"SomebodyWill$Search", "isDone", "()Z"⟩, 6) := ⟨⟨by decide +kernel, by decide +kernel⟩, List.mem_of_getElem? (i := 62) (by decide +kernel), List.mem_of_getElem? (i := 627) (by decide +kernel), List.mem_of_getElem? (i := 628) (by decide +kernel)⟩
theorem lw_p54 : lw_okq (⟨"SomebodyWill$Search", "advance", "(I)I"⟩, 6) := ⟨⟨by decide +kernel, by decide +kernel⟩, List.mem_of_getElem? (i := 62) (by decide +kernel), List.mem_of_getElem? (i := 632) (by decide +kernel), List.mem_of_getElem? (i := 633) (by decide +kernel)⟩
theorem lw_p55 : lw_okq (⟨"SomebodyWill$Street", "isRest", "(I)Z"⟩, 10) := ⟨⟨by decide +kernel, by decide +kernel⟩, List.mem_of_getElem? (i := 68) (by decide +kernel), List.mem_of_getElem? (i := 637) (by decide +kernel), List.mem_of_getElem? (i := 638) (by decide +kernel)⟩
theorem lw_p56 : lw_okq (⟨"SomebodyWill$Street", "firstRestless", "(I)I"⟩, 10) := ⟨⟨by decide +kernel, by decide +kernel⟩, List.mem_of_getElem? (i := 68) (by decide +kernel), List.mem_of_getElem? (i := 641) (by decide +kernel), List.mem_of_getElem? (i := 642) (by decide +kernel)⟩
theorem lw_p57 : lw_okq (⟨"SomebodyWill$Street", "gainByChange", "(II)I"⟩, 10) := ⟨⟨by decide +kernel, by decide +kernel⟩, List.mem_of_getElem? (i := 68) (by decide +kernel), List.mem_of_getElem? (i := 645) (by decide +kernel), List.mem_of_getElem? (i := 646) (by decide +kernel)⟩
theorem lw_p58 : lw_okq (⟨"SomebodyWill$Town", "draw", "(I)I"⟩, 5) := ⟨⟨by decide +kernel, by decide +kernel⟩, List.mem_of_getElem? (i := 54) (by decide +kernel), List.mem_of_getElem? (i := 654) (by decide +kernel), List.mem_of_getElem? (i := 655) (by decide +kernel)⟩
theorem lw_p59 : lw_okq (⟨"SomebodyWill$Town", "become", "(LSomebodyWill$Town;)V"⟩, 5) := ⟨⟨by decide +kernel, by decide +kernel⟩, List.mem_of_getElem? (i := 54) (by decide +kernel), List.mem_of_getElem? (i := 667) (by decide +kernel), List.mem_of_getElem? (i := 668) (by decide +kernel)⟩
theorem lw_p60 : lw_okq (⟨"SomebodyWill$Search", "become", "(LSomebodyWill$Search;)V"⟩, 6) := ⟨⟨by decide +kernel, by decide +kernel⟩, List.mem_of_getElem? (i := 62) (by decide +kernel), List.mem_of_getElem? (i := 673) (by decide +kernel), List.mem_of_getElem? (i := 674) (by decide +kernel)⟩
theorem lw_p61 : lw_okq (⟨"SomebodyWill$Street", "rests", "()I"⟩, 10) := ⟨⟨by decide +kernel, by decide +kernel⟩, List.mem_of_getElem? (i := 68) (by decide +kernel), List.mem_of_getElem? (i := 689) (by decide +kernel), List.mem_of_getElem? (i := 690) (by decide +kernel)⟩
theorem lw_p62 : lw_okq (⟨"SomebodyWill", "restBy", "(II)I"⟩, 8) := ⟨⟨by decide +kernel, by decide +kernel⟩, List.mem_of_getElem? (i := 16) (by decide +kernel), List.mem_of_getElem? (i := 698) (by decide +kernel), List.mem_of_getElem? (i := 699) (by decide +kernel)⟩
theorem lw_p63 : lw_okq (⟨"SomebodyWill$Street", "choose", "(IZ)I"⟩, 10) := ⟨⟨by decide +kernel, by decide +kernel⟩, List.mem_of_getElem? (i := 68) (by decide +kernel), List.mem_of_getElem? (i := 702) (by decide +kernel), List.mem_of_getElem? (i := 703) (by decide +kernel)⟩
def lw_privs_4 : List (MethodName × Nat) := [(⟨"SomebodyWill$Street", "hasSet", "(I)Z"⟩, 10), (⟨"SomebodyWill$Street", "sets", "()I"⟩, 10), (⟨"SomebodyWill$Street", "\x61dmit", "(III)I"⟩, 10), (⟨"SomebodyWill$Search", "start", "(LSomebodyWill$Street;I)V"⟩, 6), (⟨"SomebodyWill$Street", "become", "(LSomebodyWill$Street;)V"⟩, 10), (⟨"SomebodyWill$Search", "isDone", "()Z"⟩, 6), (⟨"SomebodyWill$Search", "advance", "(I)I"⟩, 6), (⟨"SomebodyWill$Street", "isRest", "(I)Z"⟩, 10), (⟨"SomebodyWill$Street", "firstRestless", "(I)I"⟩, 10), (⟨"SomebodyWill$Street", "gainByChange", "(II)I"⟩, 10), (⟨"SomebodyWill$Town", "draw", "(I)I"⟩, 5), (⟨"SomebodyWill$Town", "become", "(LSomebodyWill$Town;)V"⟩, 5), (⟨"SomebodyWill$Search", "become", "(LSomebodyWill$Search;)V"⟩, 6), (⟨"SomebodyWill$Street", "rests", "()I"⟩, 10), (⟨"SomebodyWill", "restBy", "(II)I"⟩, 8), (⟨"SomebodyWill$Street", "choose", "(IZ)I"⟩, 10)]
theorem lw_r4 : ∀ q ∈ lw_privs_4, lw_okq q := List.forall_mem_cons.mpr ⟨lw_p48, List.forall_mem_cons.mpr ⟨lw_p49, List.forall_mem_cons.mpr ⟨lw_p50, List.forall_mem_cons.mpr ⟨lw_p51, List.forall_mem_cons.mpr ⟨lw_p52, List.forall_mem_cons.mpr ⟨lw_p53, List.forall_mem_cons.mpr ⟨lw_p54, List.forall_mem_cons.mpr ⟨lw_p55, List.forall_mem_cons.mpr ⟨lw_p56, List.forall_mem_cons.mpr ⟨lw_p57, List.forall_mem_cons.mpr ⟨lw_p58, List.forall_mem_cons.mpr ⟨lw_p59, List.forall_mem_cons.mpr ⟨lw_p60, List.forall_mem_cons.mpr ⟨lw_p61, List.forall_mem_cons.mpr ⟨lw_p62, List.forall_mem_cons.mpr ⟨lw_p63, fun _ h => absurd h List.not_mem_nil⟩⟩⟩⟩⟩⟩⟩⟩⟩⟩⟩⟩⟩⟩⟩⟩
theorem lw_p64 : lw_okq (⟨"SomebodyWill$Street", "hasMustsIn", "(I)Z"⟩, 10) := ⟨⟨by decide +kernel, by decide +kernel⟩, List.mem_of_getElem? (i := 68) (by decide +kernel), List.mem_of_getElem? (i := 706) (by decide +kernel), List.mem_of_getElem? (i := 707) (by decide +kernel)⟩
theorem lw_p65 : lw_okq (⟨"SomebodyWill$Street", "valueOf", "(II)I"⟩, 10) := ⟨⟨by decide +kernel, by decide +kernel⟩, List.mem_of_getElem? (i := 68) (by decide +kernel), List.mem_of_getElem? (i := 710) (by decide +kernel), List.mem_of_getElem? (i := 711) (by decide +kernel)⟩
theorem lw_p66 : lw_okq (⟨"SomebodyWill$Street", "costOf", "(I)I"⟩, 10) := ⟨⟨by decide +kernel, by decide +kernel⟩, List.mem_of_getElem? (i := 68) (by decide +kernel), List.mem_of_getElem? (i := 714) (by decide +kernel), List.mem_of_getElem? (i := 715) (by decide +kernel)⟩
theorem lw_p67 : lw_okq (⟨"SomebodyWill$Street", "goodOf", "(I)I"⟩, 10) := ⟨⟨by decide +kernel, by decide +kernel⟩, List.mem_of_getElem? (i := 68) (by decide +kernel), List.mem_of_getElem? (i := 718) (by decide +kernel), List.mem_of_getElem? (i := 719) (by decide +kernel)⟩
theorem lw_p68 : lw_okq (⟨"SomebodyWill$Street", "gainOf", "(II)I"⟩, 10) := ⟨⟨by decide +kernel, by decide +kernel⟩, List.mem_of_getElem? (i := 68) (by decide +kernel), List.mem_of_getElem? (i := 722) (by decide +kernel), List.mem_of_getElem? (i := 723) (by decide +kernel)⟩
theorem lw_p69 : lw_okq (⟨"SomebodyWill", "belowGood", "(II)I"⟩, 8) := ⟨⟨by decide +kernel, by decide +kernel⟩, List.mem_of_getElem? (i := 16) (by decide +kernel), List.mem_of_getElem? (i := 734) (by decide +kernel), List.mem_of_getElem? (i := 735) (by decide +kernel)⟩
theorem lw_p70 : lw_okq (⟨"SomebodyWill", "streetWithSet", "(II)LSomebodyWill$Street;"⟩, 8) := ⟨⟨by decide +kernel, by decide +kernel⟩, List.mem_of_getElem? (i := 16) (by decide +kernel), List.mem_of_getElem? (i := 747) (by decide +kernel), List.mem_of_getElem? (i := 748) (by decide +kernel)⟩
theorem lw_p71 : lw_okq (⟨"SomebodyWill$Street", "restNumber", "(I)I"⟩, 10) := ⟨⟨by decide +kernel, by decide +kernel⟩, List.mem_of_getElem? (i := 68) (by decide +kernel), List.mem_of_getElem? (i := 767) (by decide +kernel), List.mem_of_getElem? (i := 768) (by decide +kernel)⟩
theorem lw_p72 : lw_okq (⟨"SomebodyWill$Street", "needOf", "(II)I"⟩, 10) := ⟨⟨by decide +kernel, by decide +kernel⟩, List.mem_of_getElem? (i := 68) (by decide +kernel), List.mem_of_getElem? (i := 781) (by decide +kernel), List.mem_of_getElem? (i := 782) (by decide +kernel)⟩
theorem lw_p73 : lw_okq (⟨"SomebodyWill$Street", "wouldChange", "(II)Z"⟩, 10) := ⟨⟨by decide +kernel, by decide +kernel⟩, List.mem_of_getElem? (i := 68) (by decide +kernel), List.mem_of_getElem? (i := 785) (by decide +kernel), List.mem_of_getElem? (i := 786) (by decide +kernel)⟩
theorem lw_p74 : lw_okq (⟨"SomebodyWill$Course", "run", "(LSomebodyWill$Street;I)V"⟩, 4) := ⟨⟨by decide +kernel, by decide +kernel⟩, List.mem_of_getElem? (i := 158) (by decide +kernel), List.mem_of_getElem? (i := 797) (by decide +kernel), List.mem_of_getElem? (i := 798) (by decide +kernel)⟩
theorem lw_p75 : lw_okq (⟨"SomebodyWill$Course", "see", "(I)V"⟩, 4) := ⟨⟨by decide +kernel, by decide +kernel⟩, List.mem_of_getElem? (i := 158) (by decide +kernel), List.mem_of_getElem? (i := 802) (by decide +kernel), List.mem_of_getElem? (i := 803) (by decide +kernel)⟩
theorem lw_p76 : lw_okq (⟨"SomebodyWill$Street", "afterRound", "(I)I"⟩, 10) := ⟨⟨by decide +kernel, by decide +kernel⟩, List.mem_of_getElem? (i := 68) (by decide +kernel), List.mem_of_getElem? (i := 806) (by decide +kernel), List.mem_of_getElem? (i := 807) (by decide +kernel)⟩
theorem lw_p77 : lw_okq (⟨"SomebodyWill$Course", "isSeen", "(I)Z"⟩, 4) := ⟨⟨by decide +kernel, by decide +kernel⟩, List.mem_of_getElem? (i := 158) (by decide +kernel), List.mem_of_getElem? (i := 811) (by decide +kernel), List.mem_of_getElem? (i := 812) (by decide +kernel)⟩
def lw_privs_5 : List (MethodName × Nat) := [(⟨"SomebodyWill$Street", "hasMustsIn", "(I)Z"⟩, 10), (⟨"SomebodyWill$Street", "valueOf", "(II)I"⟩, 10), (⟨"SomebodyWill$Street", "costOf", "(I)I"⟩, 10), (⟨"SomebodyWill$Street", "goodOf", "(I)I"⟩, 10), (⟨"SomebodyWill$Street", "gainOf", "(II)I"⟩, 10), (⟨"SomebodyWill", "belowGood", "(II)I"⟩, 8), (⟨"SomebodyWill", "streetWithSet", "(II)LSomebodyWill$Street;"⟩, 8), (⟨"SomebodyWill$Street", "restNumber", "(I)I"⟩, 10), (⟨"SomebodyWill$Street", "needOf", "(II)I"⟩, 10), (⟨"SomebodyWill$Street", "wouldChange", "(II)Z"⟩, 10), (⟨"SomebodyWill$Course", "run", "(LSomebodyWill$Street;I)V"⟩, 4), (⟨"SomebodyWill$Course", "see", "(I)V"⟩, 4), (⟨"SomebodyWill$Street", "afterRound", "(I)I"⟩, 10), (⟨"SomebodyWill$Course", "isSeen", "(I)Z"⟩, 4)]
theorem lw_r5 : ∀ q ∈ lw_privs_5, lw_okq q := List.forall_mem_cons.mpr ⟨lw_p64, List.forall_mem_cons.mpr ⟨lw_p65, List.forall_mem_cons.mpr ⟨lw_p66, List.forall_mem_cons.mpr ⟨lw_p67, List.forall_mem_cons.mpr ⟨lw_p68, List.forall_mem_cons.mpr ⟨lw_p69, List.forall_mem_cons.mpr ⟨lw_p70, List.forall_mem_cons.mpr ⟨lw_p71, List.forall_mem_cons.mpr ⟨lw_p72, List.forall_mem_cons.mpr ⟨lw_p73, List.forall_mem_cons.mpr ⟨lw_p74, List.forall_mem_cons.mpr ⟨lw_p75, List.forall_mem_cons.mpr ⟨lw_p76, List.forall_mem_cons.mpr ⟨lw_p77, fun _ h => absurd h List.not_mem_nil⟩⟩⟩⟩⟩⟩⟩⟩⟩⟩⟩⟩⟩⟩
def lw_privs : List (MethodName × Nat) := lw_privs_1 ++ (lw_privs_2 ++ (lw_privs_3 ++ (lw_privs_4 ++ (lw_privs_5))))
def lw_tbl : List Cond := k2_sels lw_privs ++ tables_1
theorem lw_privs_ok : ∀ q ∈ lw_privs, lw_okq q := by
  show ∀ q ∈ lw_privs_1 ++ (lw_privs_2 ++ (lw_privs_3 ++ (lw_privs_4 ++ (lw_privs_5)))), lw_okq q
  exact List.forall_mem_append.mpr ⟨lw_r1, List.forall_mem_append.mpr ⟨lw_r2, List.forall_mem_append.mpr ⟨lw_r3, List.forall_mem_append.mpr ⟨lw_r4, lw_r5⟩⟩⟩⟩
def RX0 : String := "SomebodyWill$Course"
def TX0 : u_T := fun k => match k with
  | 0 => ("SomebodyWill$Course", "seen", "[J", true)
  | 1 => ("SomebodyWill$Course", "end", "I", false)
  | 2 => ("SomebodyWill$Course", "changes", "I", false)
  | _ => ("SomebodyWill$Course", "ringRounds", "I", false)
def tyX0 : Nat → FieldType := fun k => match k with
  | 0 => .array .long
  | 1 => .int
  | 2 => .int
  | _ => .int
abbrev wsX00 : List Cond := u_ws RX0 TX0 4
theorem nmX0 : ∀ a, a < 4 → ∀ b, b < 4 → a ≠ b → (TX0 a).2.1 ≠ (TX0 b).2.1 := by decide +kernel
theorem tyX0_ok : ∀ k, k < 4 → parseFieldDescriptor (TX0 k).2.2.1 = some (tyX0 k) := by decide +kernel
abbrev cX0_init : ByteArray := prog_2_method_1_code
def yX0_init : MethodName := ⟨RX0, "<init>", "()V"⟩
abbrev cX0_run : ByteArray := prog_2_method_2_code
def yX0_run : MethodName := ⟨RX0, "run", "(LSomebodyWill$Street;I)V"⟩
abbrev cX0_roundsBackTo : ByteArray := prog_2_method_3_code
def yX0_roundsBackTo : MethodName := ⟨RX0, "roundsBackTo", "(LSomebodyWill$Street;I)I"⟩
abbrev cX0_see : ByteArray := prog_2_method_4_code
def yX0_see : MethodName := ⟨RX0, "see", "(I)V"⟩
abbrev cX0_isSeen : ByteArray := prog_2_method_5_code
def yX0_isSeen : MethodName := ⟨RX0, "isSeen", "(I)Z"⟩
def RX1 : String := "SomebodyWill$Reader"
def TX1 : u_T := fun k => match k with
  | 0 => ("SomebodyWill$Reader", "bytes", "[I", true)
  | 1 => ("SomebodyWill$Reader", "size", "I", false)
  | 2 => ("SomebodyWill$Reader", "sort", "I", false)
  | 3 => ("SomebodyWill$Reader", "start", "I", false)
  | 4 => ("SomebodyWill$Reader", "behind", "I", false)
  | _ => ("SomebodyWill$Reader", "passed", "I", false)
def tyX1 : Nat → FieldType := fun k => match k with
  | 0 => .array .int
  | 1 => .int
  | 2 => .int
  | 3 => .int
  | 4 => .int
  | _ => .int
abbrev wsX10 : List Cond := u_ws RX1 TX1 6
theorem nmX1 : ∀ a, a < 6 → ∀ b, b < 6 → a ≠ b → (TX1 a).2.1 ≠ (TX1 b).2.1 := by decide +kernel
theorem tyX1_ok : ∀ k, k < 6 → parseFieldDescriptor (TX1 k).2.2.1 = some (tyX1 k) := by decide +kernel
abbrev cX1_init : ByteArray := prog_3_method_1_code
def yX1_init : MethodName := ⟨RX1, "<init>", "()V"⟩
abbrev cX1_append : ByteArray := prog_3_method_2_code
def yX1_append : MethodName := ⟨RX1, "append", "(I)V"⟩
abbrev cX1_empty : ByteArray := prog_3_method_3_code
def yX1_empty : MethodName := ⟨RX1, "empty", "()V"⟩
abbrev cX1_readStreet : ByteArray := prog_3_method_4_code
def yX1_readStreet : MethodName := ⟨RX1, "readStreet", "(LSomebodyWill$Street;)Z"⟩
abbrev cX1_readStatement : ByteArray := prog_3_method_5_code
def yX1_readStatement : MethodName := ⟨RX1, "readStatement", "(LSomebodyWill$Street;)Z"⟩
abbrev cX1_readForAll : ByteArray := prog_3_method_6_code
def yX1_readForAll : MethodName := ⟨RX1, "readForAll", "([I)Z"⟩
abbrev cX1_readMore : ByteArray := prog_3_method_7_code
def yX1_readMore : MethodName := ⟨RX1, "readMore", "(LSomebodyWill$Street;)Z"⟩
abbrev cX1_readOne : ByteArray := prog_3_method_8_code
def yX1_readOne : MethodName := ⟨RX1, "readOne", "(LSomebodyWill$Street;)Z"⟩
abbrev cX1_readTie : ByteArray := prog_3_method_9_code
def yX1_readTie : MethodName := ⟨RX1, "readTie", "(LSomebodyWill$Street;)Z"⟩
abbrev cX1_readMust : ByteArray := prog_3_method_10_code
def yX1_readMust : MethodName := ⟨RX1, "readMust", "(LSomebodyWill$Street;)Z"⟩
abbrev cX1_passNumber : ByteArray := prog_3_method_11_code
def yX1_passNumber : MethodName := ⟨RX1, "passNumber", "(II)Z"⟩
abbrev cX1_passWord : ByteArray := prog_3_method_12_code
def yX1_passWord : MethodName := ⟨RX1, "passWord", "(Ljava/lang/String;)Z"⟩
abbrev cX1_isWord : ByteArray := prog_3_method_13_code
def yX1_isWord : MethodName := ⟨RX1, "isWord", "(Ljava/lang/String;)Z"⟩
abbrev cX1_numberAtHand : ByteArray := prog_3_method_14_code
def yX1_numberAtHand : MethodName := ⟨RX1, "numberAtHand", "()I"⟩
abbrev cX1_advance : ByteArray := prog_3_method_15_code
def yX1_advance : MethodName := ⟨RX1, "advance", "()V"⟩
abbrev cX1_sortOf : ByteArray := prog_3_method_16_code
def yX1_sortOf : MethodName := ⟨RX1, "sortOf", "(I)I"⟩
def RX2 : String := "SomebodyWill$Search"
def TX2 : u_T := fun k => match k with
  | 0 => ("SomebodyWill$Search", "street", "LSomebodyWill$Street;", true)
  | 1 => ("SomebodyWill$Search", "isUnderWay", "Z", false)
  | 2 => ("SomebodyWill$Search", "streetNumber", "I", false)
  | 3 => ("SomebodyWill$Search", "next", "I", false)
  | 4 => ("SomebodyWill$Search", "found", "I", false)
  | _ => ("SomebodyWill$Search", "last", "I", false)
def tyX2 : Nat → FieldType := fun k => match k with
  | 0 => .object "SomebodyWill$Street"
  | 1 => .boolean
  | 2 => .int
  | 3 => .int
  | 4 => .int
  | _ => .int
abbrev wsX20 : List Cond := u_ws RX2 TX2 6
theorem nmX2 : ∀ a, a < 6 → ∀ b, b < 6 → a ≠ b → (TX2 a).2.1 ≠ (TX2 b).2.1 := by decide +kernel
theorem tyX2_ok : ∀ k, k < 6 → parseFieldDescriptor (TX2 k).2.2.1 = some (tyX2 k) := by decide +kernel
abbrev cX2_init : ByteArray := prog_4_method_1_code
def yX2_init : MethodName := ⟨RX2, "<init>", "()V"⟩
abbrev cX2_start : ByteArray := prog_4_method_2_code
def yX2_start : MethodName := ⟨RX2, "start", "(LSomebodyWill$Street;I)V"⟩
abbrev cX2_become : ByteArray := prog_4_method_3_code
def yX2_become : MethodName := ⟨RX2, "become", "(LSomebodyWill$Search;)V"⟩
abbrev cX2_isDone : ByteArray := prog_4_method_4_code
def yX2_isDone : MethodName := ⟨RX2, "isDone", "()Z"⟩
abbrev cX2_advance : ByteArray := prog_4_method_5_code
def yX2_advance : MethodName := ⟨RX2, "advance", "(I)I"⟩
def RX3 : String := "SomebodyWill$Shelf"
def TX3 : u_T := fun k => match k with
  | 0 => ("SomebodyWill$Shelf", "places", "[J", true)
  | 1 => ("SomebodyWill$Shelf", "holding", "I", false)
  | 2 => ("SomebodyWill$Shelf", "size", "I", false)
  | _ => ("SomebodyWill$Shelf", "wayTold", "I", false)
def tyX3 : Nat → FieldType := fun k => match k with
  | 0 => .array .long
  | 1 => .int
  | 2 => .int
  | _ => .int
abbrev wsX30 : List Cond := u_ws RX3 TX3 4
theorem nmX3 : ∀ a, a < 4 → ∀ b, b < 4 → a ≠ b → (TX3 a).2.1 ≠ (TX3 b).2.1 := by decide +kernel
theorem tyX3_ok : ∀ k, k < 4 → parseFieldDescriptor (TX3 k).2.2.1 = some (tyX3 k) := by decide +kernel
abbrev cX3_init : ByteArray := prog_5_method_1_code
def yX3_init : MethodName := ⟨RX3, "<init>", "()V"⟩
abbrev cX3_isRow : ByteArray := prog_5_method_2_code
def yX3_isRow : MethodName := ⟨RX3, "isRow", "()Z"⟩
abbrev cX3_isWay : ByteArray := prog_5_method_3_code
def yX3_isWay : MethodName := ⟨RX3, "isWay", "()Z"⟩
abbrev cX3_wayKind : ByteArray := prog_5_method_4_code
def yX3_wayKind : MethodName := ⟨RX3, "wayKind", "()I"⟩
abbrev cX3_putRow : ByteArray := prog_5_method_5_code
def yX3_putRow : MethodName := ⟨RX3, "putRow", "(II)V"⟩
abbrev cX3_putWay : ByteArray := prog_5_method_6_code
def yX3_putWay : MethodName := ⟨RX3, "putWay", "(II)V"⟩
abbrev cX3_hasPlaces : ByteArray := prog_5_method_7_code
def yX3_hasPlaces : MethodName := ⟨RX3, "hasPlaces", "(II)Z"⟩
abbrev cX3_put : ByteArray := prog_5_method_8_code
def yX3_put : MethodName := ⟨RX3, "put", "(IJ)V"⟩
abbrev cX3_told : ByteArray := prog_5_method_9_code
def yX3_told : MethodName := ⟨RX3, "told", "(I)J"⟩
abbrev cX3_toldSet : ByteArray := prog_5_method_10_code
def yX3_toldSet : MethodName := ⟨RX3, "toldSet", "()I"⟩
def RX4 : String := "SomebodyWill$Street"
def TX4 : u_T := fun k => match k with
  | 0 => ("SomebodyWill$Street", "cost", "[I", true)
  | 1 => ("SomebodyWill$Street", "worth", "[I", true)
  | 2 => ("SomebodyWill$Street", "near", "[I", true)
  | 3 => ("SomebodyWill$Street", "wayKind", "[I", true)
  | 4 => ("SomebodyWill$Street", "wayTold", "[I", true)
  | 5 => ("SomebodyWill$Street", "price", "[I", true)
  | 6 => ("SomebodyWill$Street", "pays", "[I", true)
  | 7 => ("SomebodyWill$Street", "persons", "I", false)
  | 8 => ("SomebodyWill$Street", "more", "I", false)
  | _ => ("SomebodyWill$Street", "musts", "I", false)
def tyX4 : Nat → FieldType := fun k => match k with
  | 0 => .array .int
  | 1 => .array .int
  | 2 => .array .int
  | 3 => .array .int
  | 4 => .array .int
  | 5 => .array .int
  | 6 => .array .int
  | 7 => .int
  | 8 => .int
  | _ => .int
abbrev wsX40 : List Cond := u_ws RX4 TX4 10
theorem nmX4 : ∀ a, a < 10 → ∀ b, b < 10 → a ≠ b → (TX4 a).2.1 ≠ (TX4 b).2.1 := by decide +kernel
theorem tyX4_ok : ∀ k, k < 10 → parseFieldDescriptor (TX4 k).2.2.1 = some (tyX4 k) := by decide +kernel
abbrev cX4_init : ByteArray := prog_6_method_1_code
def yX4_init : MethodName := ⟨RX4, "<init>", "()V"⟩
abbrev cX4_clear : ByteArray := prog_6_method_2_code
def yX4_clear : MethodName := ⟨RX4, "clear", "(I)V"⟩
abbrev cX4_become : ByteArray := prog_6_method_3_code
def yX4_become : MethodName := ⟨RX4, "become", "(LSomebodyWill$Street;)V"⟩
abbrev cX4_hasPerson : ByteArray := prog_6_method_4_code
def yX4_hasPerson : MethodName := ⟨RX4, "hasPerson", "(I)Z"⟩
abbrev cX4_hasPair : ByteArray := prog_6_method_5_code
def yX4_hasPair : MethodName := ⟨RX4, "hasPair", "(II)Z"⟩
abbrev cX4_sets : ByteArray := prog_6_method_6_code
def yX4_sets : MethodName := ⟨RX4, "sets", "()I"⟩
abbrev cX4_hasSet : ByteArray := prog_6_method_7_code
def yX4_hasSet : MethodName := ⟨RX4, "hasSet", "(I)Z"⟩
abbrev cX4_hasMustsIn : ByteArray := prog_6_method_8_code
def yX4_hasMustsIn : MethodName := ⟨RX4, "hasMustsIn", "(I)Z"⟩
abbrev cX4_isIn : ByteArray := prog_6_method_9_code
def yX4_isIn : MethodName := ⟨RX4, "isIn", "(II)Z"⟩
abbrev cX4_isMust : ByteArray := prog_6_method_10_code
def yX4_isMust : MethodName := ⟨RX4, "isMust", "(I)Z"⟩
abbrev cX4_setMust : ByteArray := prog_6_method_11_code
def yX4_setMust : MethodName := ⟨RX4, "setMust", "(IZ)V"⟩
abbrev cX4_value : ByteArray := prog_6_method_12_code
def yX4_value : MethodName := ⟨RX4, "value", "(III)V"⟩
abbrev cX4_giveWay : ByteArray := prog_6_method_13_code
def yX4_giveWay : MethodName := ⟨RX4, "giveWay", "(III)V"⟩
abbrev cX4_admit : ByteArray := prog_6_method_14_code
def yX4_admit : MethodName := ⟨RX4, "\x61dmit", "(III)I"⟩
abbrev cX4_areNear : ByteArray := prog_6_method_15_code
def yX4_areNear : MethodName := ⟨RX4, "areNear", "(II)Z"⟩
abbrev cX4_priceOf : ByteArray := prog_6_method_16_code
def yX4_priceOf : MethodName := ⟨RX4, "priceOf", "(II)I"⟩
abbrev cX4_join : ByteArray := prog_6_method_17_code
def yX4_join : MethodName := ⟨RX4, "join", "(III)V"⟩
abbrev cX4_part : ByteArray := prog_6_method_18_code
def yX4_part : MethodName := ⟨RX4, "part", "(II)V"⟩
abbrev cX4_priceAt : ByteArray := prog_6_method_19_code
def yX4_priceAt : MethodName := ⟨RX4, "priceAt", "(III)V"⟩
abbrev cX4_joinNeighbours : ByteArray := prog_6_method_20_code
def yX4_joinNeighbours : MethodName := ⟨RX4, "joinNeighbours", "()V"⟩
abbrev cX4_joinAll : ByteArray := prog_6_method_21_code
def yX4_joinAll : MethodName := ⟨RX4, "joinAll", "()V"⟩
abbrev cX4_ties : ByteArray := prog_6_method_22_code
def yX4_ties : MethodName := ⟨RX4, "ties", "()I"⟩
abbrev cX4_prices : ByteArray := prog_6_method_23_code
def yX4_prices : MethodName := ⟨RX4, "prices", "()I"⟩
abbrev cX4_gainOf : ByteArray := prog_6_method_24_code
def yX4_gainOf : MethodName := ⟨RX4, "gainOf", "(II)I"⟩
abbrev cX4_goodOf : ByteArray := prog_6_method_25_code
def yX4_goodOf : MethodName := ⟨RX4, "goodOf", "(I)I"⟩
abbrev cX4_edge : ByteArray := prog_6_method_26_code
def yX4_edge : MethodName := ⟨RX4, "edge", "(II)I"⟩
abbrev cX4_gainByChange : ByteArray := prog_6_method_27_code
def yX4_gainByChange : MethodName := ⟨RX4, "gainByChange", "(II)I"⟩
abbrev cX4_wouldChange : ByteArray := prog_6_method_28_code
def yX4_wouldChange : MethodName := ⟨RX4, "wouldChange", "(II)Z"⟩
abbrev cX4_needOf : ByteArray := prog_6_method_29_code
def yX4_needOf : MethodName := ⟨RX4, "needOf", "(II)I"⟩
abbrev cX4_firstRestless : ByteArray := prog_6_method_30_code
def yX4_firstRestless : MethodName := ⟨RX4, "firstRestless", "(I)I"⟩
abbrev cX4_isRest : ByteArray := prog_6_method_31_code
def yX4_isRest : MethodName := ⟨RX4, "isRest", "(I)Z"⟩
abbrev cX4_rests : ByteArray := prog_6_method_32_code
def yX4_rests : MethodName := ⟨RX4, "rests", "()I"⟩
abbrev cX4_restNumber : ByteArray := prog_6_method_33_code
def yX4_restNumber : MethodName := ⟨RX4, "restNumber", "(I)I"⟩
abbrev cX4_choose : ByteArray := prog_6_method_35_code
def yX4_choose : MethodName := ⟨RX4, "choose", "(IZ)I"⟩
abbrev cX4_valueOf : ByteArray := prog_6_method_36_code
def yX4_valueOf : MethodName := ⟨RX4, "valueOf", "(II)I"⟩
abbrev cX4_costOf : ByteArray := prog_6_method_37_code
def yX4_costOf : MethodName := ⟨RX4, "costOf", "(I)I"⟩
abbrev cX4_afterRound : ByteArray := prog_6_method_38_code
def yX4_afterRound : MethodName := ⟨RX4, "afterRound", "(I)I"⟩
abbrev cX4_chanceOf : ByteArray := prog_6_method_39_code
def yX4_chanceOf : MethodName := ⟨RX4, "chanceOf", "(II)I"⟩
abbrev cX4_doesSurely : ByteArray := prog_6_method_40_code
def yX4_doesSurely : MethodName := ⟨RX4, "doesSurely", "(II)Z"⟩
abbrev cX4_lightAfter : ByteArray := prog_6_method_41_code
def yX4_lightAfter : MethodName := ⟨RX4, "lightAfter", "(II)I"⟩
def RX5 : String := "SomebodyWill$Town"
def TX5 : u_T := fun k => match k with
  | 0 => ("SomebodyWill$Town", "streets", "[LSomebodyWill$Street;", true)
  | 1 => ("SomebodyWill$Town", "known", "[I", true)
  | 2 => ("SomebodyWill$Town", "hunt", "LSomebodyWill$Search;", true)
  | 3 => ("SomebodyWill$Town", "size", "I", false)
  | _ => ("SomebodyWill$Town", "chanceSeed", "I", false)
def tyX5 : Nat → FieldType := fun k => match k with
  | 0 => .array (.object "SomebodyWill$Street")
  | 1 => .array .int
  | 2 => .object "SomebodyWill$Search"
  | 3 => .int
  | _ => .int
abbrev wsX50 : List Cond := u_ws RX5 TX5 5
theorem nmX5 : ∀ a, a < 5 → ∀ b, b < 5 → a ≠ b → (TX5 a).2.1 ≠ (TX5 b).2.1 := by decide +kernel
theorem tyX5_ok : ∀ k, k < 5 → parseFieldDescriptor (TX5 k).2.2.1 = some (tyX5 k) := by decide +kernel
abbrev cX5_init : ByteArray := prog_7_method_1_code
def yX5_init : MethodName := ⟨RX5, "<init>", "()V"⟩
abbrev cX5_become : ByteArray := prog_7_method_2_code
def yX5_become : MethodName := ⟨RX5, "become", "(LSomebodyWill$Town;)V"⟩
abbrev cX5_streetAt : ByteArray := prog_7_method_3_code
def yX5_streetAt : MethodName := ⟨RX5, "streetAt", "(I)LSomebodyWill$Street;"⟩
abbrev cX5_placeForNext : ByteArray := prog_7_method_4_code
def yX5_placeForNext : MethodName := ⟨RX5, "placeForNext", "()LSomebodyWill$Street;"⟩
abbrev cX5_draw : ByteArray := prog_7_method_5_code
def yX5_draw : MethodName := ⟨RX5, "draw", "(I)I"⟩
def RX6 : String := "SomebodyWill"
def TX6 : u_T := fun k => match k with
  | 0 => ("SomebodyWill", "shelves", "[LSomebodyWill$Shelf;", true)
  | 1 => ("SomebodyWill", "tape", "LSomebodyWill$Reader;", true)
  | 2 => ("SomebodyWill", "town", "LSomebodyWill$Town;", true)
  | 3 => ("SomebodyWill", "kept", "LSomebodyWill$Town;", true)
  | 4 => ("SomebodyWill", "trial", "LSomebodyWill$Street;", true)
  | 5 => ("SomebodyWill", "course", "LSomebodyWill$Course;", true)
  | 6 => ("SomebodyWill", "refused", "[I", true)
  | _ => ("SomebodyWill", "isKept", "Z", false)
def tyX6 : Nat → FieldType := fun k => match k with
  | 0 => .array (.object "SomebodyWill$Shelf")
  | 1 => .object "SomebodyWill$Reader"
  | 2 => .object "SomebodyWill$Town"
  | 3 => .object "SomebodyWill$Town"
  | 4 => .object "SomebodyWill$Street"
  | 5 => .object "SomebodyWill$Course"
  | 6 => .array .int
  | _ => .boolean
abbrev wsX60 : List Cond := u_ws RX6 TX6 8
theorem nmX6 : ∀ a, a < 8 → ∀ b, b < 8 → a ≠ b → (TX6 a).2.1 ≠ (TX6 b).2.1 := by decide +kernel
theorem tyX6_ok : ∀ k, k < 8 → parseFieldDescriptor (TX6 k).2.2.1 = some (tyX6 k) := by decide +kernel
abbrev cX6_init : ByteArray := prog_1_method_1_code
def yX6_init : MethodName := ⟨RX6, "<init>", "()V"⟩
abbrev cX6_row : ByteArray := prog_1_method_2_code
def yX6_row : MethodName := ⟨RX6, "row", "(III)I"⟩
abbrev cX6_set : ByteArray := prog_1_method_3_code
def yX6_set : MethodName := ⟨RX6, "set", "(IIJ)I"⟩
abbrev cX6_way : ByteArray := prog_1_method_7_code
def yX6_way : MethodName := ⟨RX6, "way", "(III)I"⟩
abbrev cX6_feed : ByteArray := prog_1_method_9_code
def yX6_feed : MethodName := ⟨RX6, "feed", "(II)I"⟩
abbrev cX6_street : ByteArray := prog_1_method_11_code
def yX6_street : MethodName := ⟨RX6, "street", "()I"⟩
abbrev cX6_streetOf : ByteArray := prog_1_method_12_code
def yX6_streetOf : MethodName := ⟨RX6, "streetOf", "(II)I"⟩
abbrev cX6_alter : ByteArray := prog_1_method_14_code
def yX6_alter : MethodName := ⟨RX6, "alter", "(IIII)I"⟩
abbrev cX6_tie : ByteArray := prog_1_method_15_code
def yX6_tie : MethodName := ⟨RX6, "tie", "(IIII)I"⟩
abbrev cX6_must : ByteArray := prog_1_method_16_code
def yX6_must : MethodName := ⟨RX6, "must", "(IIZ)I"⟩
abbrev cX6_take : ByteArray := prog_1_method_17_code
def yX6_take : MethodName := ⟨RX6, "take", "(III)I"⟩
abbrev cX6_come : ByteArray := prog_1_method_18_code
def yX6_come : MethodName := ⟨RX6, "come", "(IIII)I"⟩
abbrev cX6_total : ByteArray := prog_1_method_20_code
def yX6_total : MethodName := ⟨RX6, "total", "(II)I"⟩
abbrev cX6_judge : ByteArray := prog_1_method_21_code
def yX6_judge : MethodName := ⟨RX6, "judge", "(II)I"⟩
abbrev cX6_count : ByteArray := prog_1_method_22_code
def yX6_count : MethodName := ⟨RX6, "count", "(I)I"⟩
abbrev cX6_rest : ByteArray := prog_1_method_23_code
def yX6_rest : MethodName := ⟨RX6, "rest", "(II)I"⟩
abbrev cX6_fewest : ByteArray := prog_1_method_24_code
def yX6_fewest : MethodName := ⟨RX6, "fewest", "(I)I"⟩
abbrev cX6_most : ByteArray := prog_1_method_25_code
def yX6_most : MethodName := ⟨RX6, "most", "(I)I"⟩
abbrev cX6_best : ByteArray := prog_1_method_27_code
def yX6_best : MethodName := ⟨RX6, "best", "(I)I"⟩
abbrev cX6_good : ByteArray := prog_1_method_28_code
def yX6_good : MethodName := ⟨RX6, "good", "(I)I"⟩
abbrev cX6_lost : ByteArray := prog_1_method_29_code
def yX6_lost : MethodName := ⟨RX6, "lost", "(I)I"⟩
abbrev cX6_beside : ByteArray := prog_1_method_30_code
def yX6_beside : MethodName := ⟨RX6, "beside", "(I)I"⟩
abbrev cX6_go : ByteArray := prog_1_method_31_code
def yX6_go : MethodName := ⟨RX6, "go", "(II)I"⟩
abbrev cX6_turns : ByteArray := prog_1_method_32_code
def yX6_turns : MethodName := ⟨RX6, "turns", "(II)I"⟩
abbrev cX6_ring : ByteArray := prog_1_method_33_code
def yX6_ring : MethodName := ⟨RX6, "ring", "(II)I"⟩
abbrev cX6_know : ByteArray := prog_1_method_36_code
def yX6_know : MethodName := ⟨RX6, "know", "(II)I"⟩
abbrev cX6_pay : ByteArray := prog_1_method_42_code
def yX6_pay : MethodName := ⟨RX6, "pay", "(II)I"⟩
abbrev cX6_few : ByteArray := prog_1_method_43_code
def yX6_few : MethodName := ⟨RX6, "few", "(II)I"⟩
abbrev cX6_doers : ByteArray := prog_1_method_45_code
def yX6_doers : MethodName := ⟨RX6, "doers", "(II)I"⟩
abbrev cX6_light : ByteArray := prog_1_method_46_code
def yX6_light : MethodName := ⟨RX6, "light", "(II)I"⟩
abbrev cX6_begin : ByteArray := prog_1_method_49_code
def yX6_begin : MethodName := ⟨RX6, "begin", "(I)I"⟩
abbrev cX6_step : ByteArray := prog_1_method_50_code
def yX6_step : MethodName := ⟨RX6, "step", "(I)I"⟩
abbrev cX6_image : ByteArray := prog_1_method_52_code
def yX6_image : MethodName := ⟨RX6, "image", "()I"⟩
abbrev cX6_back : ByteArray := prog_1_method_53_code
def yX6_back : MethodName := ⟨RX6, "back", "()I"⟩
abbrev cX6_status : ByteArray := prog_1_method_54_code
def yX6_status : MethodName := ⟨RX6, "status", "(I)I"⟩
abbrev cX6_refuse : ByteArray := prog_1_method_55_code
def yX6_refuse : MethodName := ⟨RX6, "refuse", "(I)I"⟩
abbrev cX6_isWithin : ByteArray := prog_1_method_56_code
def yX6_isWithin : MethodName := ⟨RX6, "isWithin", "(III)Z"⟩
abbrev cX6_shelfAt : ByteArray := prog_1_method_57_code
def yX6_shelfAt : MethodName := ⟨RX6, "shelfAt", "(I)LSomebodyWill$Shelf;"⟩
abbrev cX6_shelvesInUse : ByteArray := prog_1_method_58_code
def yX6_shelvesInUse : MethodName := ⟨RX6, "shelvesInUse", "()I"⟩
abbrev cX6_streetWithSet : ByteArray := prog_1_method_59_code
def yX6_streetWithSet : MethodName := ⟨RX6, "streetWithSet", "(II)LSomebodyWill$Street;"⟩
abbrev cX6_isWayToldBy : ByteArray := prog_1_method_60_code
def yX6_isWayToldBy : MethodName := ⟨RX6, "isWayToldBy", "(II)Z"⟩
abbrev cX6_restBy : ByteArray := prog_1_method_61_code
def yX6_restBy : MethodName := ⟨RX6, "restBy", "(II)I"⟩
abbrev cX6_belowGood : ByteArray := prog_1_method_62_code
def yX6_belowGood : MethodName := ⟨RX6, "belowGood", "(II)I"⟩
def RX7 : String := "SomebodyWillModel"
def TX7 : u_T := fun k => match k with
  | _ => ("", "", "", false)
def tyX7 : Nat → FieldType := fun k => match k with
  | _ => .int
abbrev wsX70 : List Cond := u_ws RX7 TX7 0
theorem nmX7 : ∀ a, a < 0 → ∀ b, b < 0 → a ≠ b → (TX7 a).2.1 ≠ (TX7 b).2.1 := by decide +kernel
theorem tyX7_ok : ∀ k, k < 0 → parseFieldDescriptor (TX7 k).2.2.1 = some (tyX7 k) := by decide +kernel
def RJ6 : String := "java/lang/Integer"
abbrev cJ6_bitCount_0f7a4 : ByteArray := prog_10_method_49_code
def yJ6_bitCount_0f7a4 : MethodName := ⟨RJ6, "bitCount", "(I)I"⟩
def RJ0 : String := "java/lang/String"
abbrev cJ0_length_8abf5 : ByteArray := prog_11_method_54_code
def yJ0_length_8abf5 : MethodName := ⟨RJ0, "length", "()I"⟩
abbrev cJ0_charAt_5068e : ByteArray := prog_11_method_56_code
def yJ0_charAt_5068e : MethodName := ⟨RJ0, "charAt", "(I)C"⟩
abbrev cJ0_coder_7d493 : ByteArray := prog_11_method_152_code
def yJ0_coder_7d493 : MethodName := ⟨RJ0, "coder", "()B"⟩
abbrev cJ0_isLatin1_aae02 : ByteArray := prog_11_method_154_code
def yJ0_isLatin1_aae02 : MethodName := ⟨RJ0, "isLatin1", "()Z"⟩
abbrev cJ0_checkIndex_df160 : ByteArray := prog_11_method_155_code
def yJ0_checkIndex_df160 : MethodName := ⟨RJ0, "checkIndex", "(II)V"⟩
def RJ1 : String := "java/lang/StringLatin1"
abbrev cJ1_charAt_3b067 : ByteArray := prog_12_method_2_code
def yJ1_charAt_3b067 : MethodName := ⟨RJ1, "charAt", "([BI)C"⟩
def RJ2 : String := "java/lang/StringUTF16"
abbrev cJ2_getChar_3b067 : ByteArray := prog_13_method_5_code
def yJ2_getChar_3b067 : MethodName := ⟨RJ2, "getChar", "([BI)C"⟩
abbrev cJ2_length_9d52b : ByteArray := prog_13_method_6_code
def yJ2_length_9d52b : MethodName := ⟨RJ2, "length", "([B)I"⟩
abbrev cJ2_charAt_3b067 : ByteArray := prog_13_method_83_code
def yJ2_charAt_3b067 : MethodName := ⟨RJ2, "charAt", "([BI)C"⟩
abbrev cJ2_checkIndex_2214a : ByteArray := prog_13_method_91_code
def yJ2_checkIndex_2214a : MethodName := ⟨RJ2, "checkIndex", "(I[B)V"⟩
def RJ10 : String := "java/lang/System"
def RJ7 : String := "java/util/Arrays"
abbrev cJ7_fill_d0a16 : ByteArray := prog_15_method_101_code
def yJ7_fill_d0a16 : MethodName := ⟨RJ7, "fill", "([JJ)V"⟩
abbrev cJ7_fill_53178 : ByteArray := prog_15_method_103_code
def yJ7_fill_53178 : MethodName := ⟨RJ7, "fill", "([II)V"⟩
def RJ3 : String := "jdk/internal/util/Preconditions"
abbrev cJ3_checkIndex_8e157 : ByteArray := prog_16_method_11_code
def yJ3_checkIndex_8e157 : MethodName := ⟨RJ3, "checkIndex", "(IILjava/util/function/BiFunction;)I"⟩
def RL : String := "SomebodyWillLaw"
abbrev cL_tell : ByteArray := method_2_code
def yL_tell : MethodName := ⟨RL, "tell", "(LSomebodyWill;Ljava/lang/String;)V"⟩
abbrev cL_number : ByteArray := method_3_code
def yL_number : MethodName := ⟨RL, "number", "(LSomebodyWill;I)V"⟩
abbrev cL_bits : ByteArray := method_4_code
def yL_bits : MethodName := ⟨RL, "bits", "(I)I"⟩
abbrev cL_cell : ByteArray := method_5_code
def yL_cell : MethodName := ⟨RL, "cell", "([II)I"⟩
abbrev cL_build : ByteArray := method_6_code
def yL_build : MethodName := ⟨RL, "build", "(LSomebodyWill;[III)I"⟩
abbrev cL_act : ByteArray := method_7_code
def yL_act : MethodName := ⟨RL, "act", "(LSomebodyWill;[II)V"⟩
abbrev cL_holds : ByteArray := method_8_code
def yL_holds : MethodName := ⟨RL, "holds", "(LSomebodyWill;II)Z"⟩
abbrev cL_refusals : ByteArray := method_9_code
def yL_refusals : MethodName := ⟨RL, "refusals", "(LSomebodyWill;)I"⟩
abbrev cL_law : ByteArray := code
def yL_law : MethodName := ⟨RL, "law", "([I)Z"⟩
abbrev vwCl : List vw_C := [(RX0, TX0, 4), (RX1, TX1, 6), (RX2, TX2, 6), (RX3, TX3, 4), (RX4, TX4, 10), (RX5, TX5, 5), (RX6, TX6, 8)]
