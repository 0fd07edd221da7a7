-- ===== PART A: goes FIRST, ahead of the names: the tables' words, and 'selects' of the private methods out of them =====
/-- a private method of a class that the tables say can be made, by its rows of tables_1 -/
def lw_okq (q : MethodName × Nat) : Prop := (q.1.cls ≠ "java/lang/invoke/MethodHandle" ∧ q.1.cls ≠ "java/lang/invoke/VarHandle") ∧ Cond.instantiable q.1.cls q.2 ∈ tables_1 ∧ Cond.privateMethod q.1 ∈ tables_1 ∧ Cond.instanceMethod q.1 ∈ tables_1
theorem lw_p0 : lw_okq (⟨"RoadsThanked", "addRoadFrom", "(LRoadsThanked$Shelf;I)Z"⟩, 11) := ⟨⟨by decide +kernel, by decide +kernel⟩, List.mem_of_getElem? (i := 19) (by decide +kernel), List.mem_of_getElem? (i := 446) (by decide +kernel), List.mem_of_getElem? (i := 447) (by decide +kernel)⟩
theorem lw_p1 : lw_okq (⟨"RoadsThanked$History", "forgetOldest", "()V"⟩, 7) := ⟨⟨by decide +kernel, by decide +kernel⟩, List.mem_of_getElem? (i := 259) (by decide +kernel), List.mem_of_getElem? (i := 489) (by decide +kernel), List.mem_of_getElem? (i := 490) (by decide +kernel)⟩
theorem lw_p2 : lw_okq (⟨"RoadsThanked$Reader", "readLine", "()V"⟩, 6) := ⟨⟨by decide +kernel, by decide +kernel⟩, List.mem_of_getElem? (i := 89) (by decide +kernel), List.mem_of_getElem? (i := 516) (by decide +kernel), List.mem_of_getElem? (i := 517) (by decide +kernel)⟩
theorem lw_p3 : lw_okq (⟨"RoadsThanked$Reader", "readJoined", "(II)V"⟩, 6) := ⟨⟨by decide +kernel, by decide +kernel⟩, List.mem_of_getElem? (i := 89) (by decide +kernel), List.mem_of_getElem? (i := 520) (by decide +kernel), List.mem_of_getElem? (i := 521) (by decide +kernel)⟩
theorem lw_p4 : lw_okq (⟨"RoadsThanked$Reader", "readPart", "(II)V"⟩, 6) := ⟨⟨by decide +kernel, by decide +kernel⟩, List.mem_of_getElem? (i := 89) (by decide +kernel), List.mem_of_getElem? (i := 524) (by decide +kernel), List.mem_of_getElem? (i := 525) (by decide +kernel)⟩
theorem lw_p5 : lw_okq (⟨"RoadsThanked$Reader", "readOperand", "(I)V"⟩, 6) := ⟨⟨by decide +kernel, by decide +kernel⟩, List.mem_of_getElem? (i := 89) (by decide +kernel), List.mem_of_getElem? (i := 528) (by decide +kernel), List.mem_of_getElem? (i := 529) (by decide +kernel)⟩
theorem lw_p6 : lw_okq (⟨"RoadsThanked$Reader", "next", "()I"⟩, 6) := ⟨⟨by decide +kernel, by decide +kernel⟩, List.mem_of_getElem? (i := 89) (by decide +kernel), List.mem_of_getElem? (i := 532) (by decide +kernel), List.mem_of_getElem? (i := 533) (by decide +kernel)⟩
theorem lw_p7 : lw_okq (⟨"RoadsThanked$Reader", "readNumber", "()V"⟩, 6) := ⟨⟨by decide +kernel, by decide +kernel⟩, List.mem_of_getElem? (i := 89) (by decide +kernel), List.mem_of_getElem? (i := 539) (by decide +kernel), List.mem_of_getElem? (i := 540) (by decide +kernel)⟩
theorem lw_p8 : lw_okq (⟨"RoadsThanked$Reader", "addStep", "(I)V"⟩, 6) := ⟨⟨by decide +kernel, by decide +kernel⟩, List.mem_of_getElem? (i := 89) (by decide +kernel), List.mem_of_getElem? (i := 543) (by decide +kernel), List.mem_of_getElem? (i := 544) (by decide +kernel)⟩
theorem lw_p9 : lw_okq (⟨"RoadsThanked$Reader", "blame", "()V"⟩, 6) := ⟨⟨by decide +kernel, by decide +kernel⟩, List.mem_of_getElem? (i := 89) (by decide +kernel), List.mem_of_getElem? (i := 550) (by decide +kernel), List.mem_of_getElem? (i := 551) (by decide +kernel)⟩
theorem lw_p10 : lw_okq (⟨"RoadsThanked$Reader", "readClosing", "()V"⟩, 6) := ⟨⟨by decide +kernel, by decide +kernel⟩, List.mem_of_getElem? (i := 89) (by decide +kernel), List.mem_of_getElem? (i := 554) (by decide +kernel), List.mem_of_getElem? (i := 555) (by decide +kernel)⟩
theorem lw_p11 : lw_okq (⟨"RoadsThanked$Thought", "workOut", "(III)I"⟩, 10) := ⟨⟨by decide +kernel, by decide +kernel⟩, List.mem_of_getElem? (i := 136) (by decide +kernel), List.mem_of_getElem? (i := 594) (by decide +kernel), List.mem_of_getElem? (i := 595) (by decide +kernel)⟩
theorem lw_p12 : lw_okq (⟨"RoadsThanked$Thought", "countNeighbours", "(I)I"⟩, 10) := ⟨⟨by decide +kernel, by decide +kernel⟩, List.mem_of_getElem? (i := 136) (by decide +kernel), List.mem_of_getElem? (i := 598) (by decide +kernel), List.mem_of_getElem? (i := 599) (by decide +kernel)⟩
theorem lw_p13 : lw_okq (⟨"RoadsThanked$Thought", "isOpen", "(I)Z"⟩, 10) := ⟨⟨by decide +kernel, by decide +kernel⟩, List.mem_of_getElem? (i := 136) (by decide +kernel), List.mem_of_getElem? (i := 602) (by decide +kernel), List.mem_of_getElem? (i := 603) (by decide +kernel)⟩
theorem lw_p14 : lw_okq (⟨"RoadsThanked$Law", "push", "(I)V"⟩, 4) := ⟨⟨by decide +kernel, by decide +kernel⟩, List.mem_of_getElem? (i := 117) (by decide +kernel), List.mem_of_getElem? (i := 615) (by decide +kernel), List.mem_of_getElem? (i := 616) (by decide +kernel)⟩
theorem lw_p15 : lw_okq (⟨"RoadsThanked$Law", "pop", "()I"⟩, 4) := ⟨⟨by decide +kernel, by decide +kernel⟩, List.mem_of_getElem? (i := 117) (by decide +kernel), List.mem_of_getElem? (i := 619) (by decide +kernel), List.mem_of_getElem? (i := 620) (by decide +kernel)⟩
def lw_privs_1 : List (MethodName × Nat) := [(⟨"RoadsThanked", "addRoadFrom", "(LRoadsThanked$Shelf;I)Z"⟩, 11), (⟨"RoadsThanked$History", "forgetOldest", "()V"⟩, 7), (⟨"RoadsThanked$Reader", "readLine", "()V"⟩, 6), (⟨"RoadsThanked$Reader", "readJoined", "(II)V"⟩, 6), (⟨"RoadsThanked$Reader", "readPart", "(II)V"⟩, 6), (⟨"RoadsThanked$Reader", "readOperand", "(I)V"⟩, 6), (⟨"RoadsThanked$Reader", "next", "()I"⟩, 6), (⟨"RoadsThanked$Reader", "readNumber", "()V"⟩, 6), (⟨"RoadsThanked$Reader", "addStep", "(I)V"⟩, 6), (⟨"RoadsThanked$Reader", "blame", "()V"⟩, 6), (⟨"RoadsThanked$Reader", "readClosing", "()V"⟩, 6), (⟨"RoadsThanked$Thought", "workOut", "(III)I"⟩, 10), (⟨"RoadsThanked$Thought", "countNeighbours", "(I)I"⟩, 10), (⟨"RoadsThanked$Thought", "isOpen", "(I)Z"⟩, 10), (⟨"RoadsThanked$Law", "push", "(I)V"⟩, 4), (⟨"RoadsThanked$Law", "pop", "()I"⟩, 4)]
theorem lw_r1 : ∀ q ∈ lw_privs_1, lw_okq q := List.forall_mem_cons.mpr ⟨lw_p0, List.forall_mem_cons.mpr ⟨lw_p1, List.forall_mem_cons.mpr ⟨lw_p2, List.forall_mem_cons.mpr ⟨lw_p3, List.forall_mem_cons.mpr ⟨lw_p4, List.forall_mem_cons.mpr ⟨lw_p5, List.forall_mem_cons.mpr ⟨lw_p6, List.forall_mem_cons.mpr ⟨lw_p7, List.forall_mem_cons.mpr ⟨lw_p8, List.forall_mem_cons.mpr ⟨lw_p9, List.forall_mem_cons.mpr ⟨lw_p10, List.forall_mem_cons.mpr ⟨lw_p11, List.forall_mem_cons.mpr ⟨lw_p12, List.forall_mem_cons.mpr ⟨lw_p13, List.forall_mem_cons.mpr ⟨lw_p14, List.forall_mem_cons.mpr ⟨lw_p15, fun _ h => absurd h List.not_mem_nil⟩⟩⟩⟩⟩⟩⟩⟩⟩⟩⟩⟩⟩⟩⟩⟩
theorem lw_p16 : lw_okq (⟨"RoadsThanked$Law", "endOfLine", "(I)I"⟩, 4) := ⟨⟨by decide +kernel, by decide +kernel⟩, List.mem_of_getElem? (i := 117) (by decide +kernel), List.mem_of_getElem? (i := 623) (by decide +kernel), List.mem_of_getElem? (i := 624) (by decide +kernel)⟩
theorem lw_p17 : lw_okq (⟨"RoadsThanked$Thought", "comeNearer", "()Z"⟩, 10) := ⟨⟨by decide +kernel, by decide +kernel⟩, List.mem_of_getElem? (i := 136) (by decide +kernel), List.mem_of_getElem? (i := 647) (by decide +kernel), List.mem_of_getElem? (i := 648) (by decide +kernel)⟩
theorem lw_p18 : lw_okq (⟨"RoadsThanked$Thought", "nextRoad", "(I)I"⟩, 10) := ⟨⟨by decide +kernel, by decide +kernel⟩, List.mem_of_getElem? (i := 136) (by decide +kernel), List.mem_of_getElem? (i := 651) (by decide +kernel), List.mem_of_getElem? (i := 652) (by decide +kernel)⟩
theorem lw_p19 : lw_okq (⟨"RoadsThanked", "isOfTrip", "(I)Z"⟩, 11) := ⟨⟨by decide +kernel, by decide +kernel⟩, List.mem_of_getElem? (i := 19) (by decide +kernel), List.mem_of_getElem? (i := 693) (by decide +kernel), List.mem_of_getElem? (i := 694) (by decide +kernel)⟩
theorem lw_p20 : lw_okq (⟨"RoadsThanked$Rounds", "goOn", "(IIII)V"⟩, 6) := ⟨⟨by decide +kernel, by decide +kernel⟩, List.mem_of_getElem? (i := 207) (by decide +kernel), List.mem_of_getElem? (i := 728) (by decide +kernel), List.mem_of_getElem? (i := 729) (by decide +kernel)⟩
theorem lw_p21 : lw_okq (⟨"RoadsThanked$Rounds", "finish", "(I)V"⟩, 6) := ⟨⟨by decide +kernel, by decide +kernel⟩, List.mem_of_getElem? (i := 207) (by decide +kernel), List.mem_of_getElem? (i := 732) (by decide +kernel), List.mem_of_getElem? (i := 733) (by decide +kernel)⟩
theorem lw_p22 : lw_okq (⟨"RoadsThanked$Search", "findThanks", "(IIII)Z"⟩, 6) := ⟨⟨by decide +kernel, by decide +kernel⟩, List.mem_of_getElem? (i := 179) (by decide +kernel), List.mem_of_getElem? (i := 746) (by decide +kernel), List.mem_of_getElem? (i := 747) (by decide +kernel)⟩
theorem lw_p23 : lw_okq (⟨"RoadsThanked$Search", "nextPicks", "(I)Z"⟩, 6) := ⟨⟨by decide +kernel, by decide +kernel⟩, List.mem_of_getElem? (i := 179) (by decide +kernel), List.mem_of_getElem? (i := 754) (by decide +kernel), List.mem_of_getElem? (i := 755) (by decide +kernel)⟩
theorem lw_p24 : lw_okq (⟨"RoadsThanked$Net", "isPeace", "(I)Z"⟩, 11) := ⟨⟨by decide +kernel, by decide +kernel⟩, List.mem_of_getElem? (i := 27) (by decide +kernel), List.mem_of_getElem? (i := 785) (by decide +kernel), List.mem_of_getElem? (i := 786) (by decide +kernel)⟩
theorem lw_p25 : lw_okq (⟨"RoadsThanked$Search", "turns", "()I"⟩, 6) := ⟨⟨by decide +kernel, by decide +kernel⟩, List.mem_of_getElem? (i := 179) (by decide +kernel), List.mem_of_getElem? (i := 823) (by decide +kernel), List.mem_of_getElem? (i := 824) (by decide +kernel)⟩
theorem lw_p26 : lw_okq (⟨"RoadsThanked$Search", "performFirst", "(I)V"⟩, 6) := ⟨⟨by decide +kernel, by decide +kernel⟩, List.mem_of_getElem? (i := 179) (by decide +kernel), List.mem_of_getElem? (i := 827) (by decide +kernel), List.mem_of_getElem? (i := 828) (by decide +kernel)⟩
theorem lw_p27 : lw_okq (⟨"RoadsThanked$Search", "perform", "(I)V"⟩, 6) := ⟨⟨by decide +kernel, by decide +kernel⟩, List.mem_of_getElem? (i := 179) (by decide +kernel), List.mem_of_getElem? (i := 831) (by decide +kernel), List.mem_of_getElem? (i := 832) (by decide +kernel)⟩
theorem lw_p28 : lw_okq (⟨"RoadsThanked$Search", "performSecond", "(I)V"⟩, 6) := ⟨⟨by decide +kernel, by decide +kernel⟩, List.mem_of_getElem? (i := 179) (by decide +kernel), List.mem_of_getElem? (i := 836) (by decide +kernel), List.mem_of_getElem? (i := 837) (by decide +kernel)⟩
theorem lw_p29 : lw_okq (⟨"RoadsThanked$Search", "worstAnswer", "(III)I"⟩, 6) := ⟨⟨by decide +kernel, by decide +kernel⟩, List.mem_of_getElem? (i := 179) (by decide +kernel), List.mem_of_getElem? (i := 856) (by decide +kernel), List.mem_of_getElem? (i := 857) (by decide +kernel)⟩
theorem lw_p30 : lw_okq (⟨"RoadsThanked$Stones", "run", "(IIII)I"⟩, 6) := ⟨⟨by decide +kernel, by decide +kernel⟩, List.mem_of_getElem? (i := 318) (by decide +kernel), List.mem_of_getElem? (i := 946) (by decide +kernel), List.mem_of_getElem? (i := 947) (by decide +kernel)⟩
theorem lw_p31 : lw_okq (⟨"RoadsThanked$Stones", "note", "(I)V"⟩, 6) := ⟨⟨by decide +kernel, by decide +kernel⟩, List.mem_of_getElem? (i := 318) (by decide +kernel), List.mem_of_getElem? (i := 958) (by decide +kernel), List.mem_of_getElem? (i := 959) (by decide +kernel)⟩
def lw_privs_2 : List (MethodName × Nat) := [(⟨"RoadsThanked$Law", "endOfLine", "(I)I"⟩, 4), (⟨"RoadsThanked$Thought", "comeNearer", "()Z"⟩, 10), (⟨"RoadsThanked$Thought", "nextRoad", "(I)I"⟩, 10), (⟨"RoadsThanked", "isOfTrip", "(I)Z"⟩, 11), (⟨"RoadsThanked$Rounds", "goOn", "(IIII)V"⟩, 6), (⟨"RoadsThanked$Rounds", "finish", "(I)V"⟩, 6), (⟨"RoadsThanked$Search", "findThanks", "(IIII)Z"⟩, 6), (⟨"RoadsThanked$Search", "nextPicks", "(I)Z"⟩, 6), (⟨"RoadsThanked$Net", "isPeace", "(I)Z"⟩, 11), (⟨"RoadsThanked$Search", "turns", "()I"⟩, 6), (⟨"RoadsThanked$Search", "performFirst", "(I)V"⟩, 6), (⟨"RoadsThanked$Search", "perform", "(I)V"⟩, 6), (⟨"RoadsThanked$Search", "performSecond", "(I)V"⟩, 6), (⟨"RoadsThanked$Search", "worstAnswer", "(III)I"⟩, 6), (⟨"RoadsThanked$Stones", "run", "(IIII)I"⟩, 6), (⟨"RoadsThanked$Stones", "note", "(I)V"⟩, 6)]
theorem lw_r2 : ∀ q ∈ lw_privs_2, lw_okq q := List.forall_mem_cons.mpr ⟨lw_p16, List.forall_mem_cons.mpr ⟨lw_p17, List.forall_mem_cons.mpr ⟨lw_p18, List.forall_mem_cons.mpr ⟨lw_p19, List.forall_mem_cons.mpr ⟨lw_p20, List.forall_mem_cons.mpr ⟨lw_p21, List.forall_mem_cons.mpr ⟨lw_p22, List.forall_mem_cons.mpr ⟨lw_p23, List.forall_mem_cons.mpr ⟨lw_p24, List.forall_mem_cons.mpr ⟨lw_p25, List.forall_mem_cons.mpr ⟨lw_p26, List.forall_mem_cons.mpr ⟨lw_p27, List.forall_mem_cons.mpr ⟨lw_p28, List.forall_mem_cons.mpr ⟨lw_p29, List.forall_mem_cons.mpr ⟨lw_p30, List.forall_mem_cons.mpr ⟨lw_p31, fun _ h => absurd h List.not_mem_nil⟩⟩⟩⟩⟩⟩⟩⟩⟩⟩⟩⟩⟩⟩⟩⟩
theorem lw_p32 : lw_okq (⟨"RoadsThankedModel", "newRoad", "(III)I"⟩, 56) := ⟨⟨by decide +kernel, by decide +kernel⟩, List.mem_of_getElem? (i := 1029) (by decide +kernel), List.mem_of_getElem? (i := 1217) (by decide +kernel), List.mem_of_getElem? (i := 1218) (by decide +kernel)⟩
theorem lw_p33 : lw_okq (⟨"RoadsThankedModel", "toldAt", "(II)I"⟩, 56) := ⟨⟨by decide +kernel, by decide +kernel⟩, List.mem_of_getElem? (i := 1029) (by decide +kernel), List.mem_of_getElem? (i := 1229) (by decide +kernel), List.mem_of_getElem? (i := 1230) (by decide +kernel)⟩
theorem lw_p34 : lw_okq (⟨"RoadsThankedModel", "isOf", "(II)Z"⟩, 56) := ⟨⟨by decide +kernel, by decide +kernel⟩, List.mem_of_getElem? (i := 1029) (by decide +kernel), List.mem_of_getElem? (i := 1241) (by decide +kernel), List.mem_of_getElem? (i := 1242) (by decide +kernel)⟩
theorem lw_p35 : lw_okq (⟨"RoadsThankedModel", "isRoad", "(I)Z"⟩, 56) := ⟨⟨by decide +kernel, by decide +kernel⟩, List.mem_of_getElem? (i := 1029) (by decide +kernel), List.mem_of_getElem? (i := 1245) (by decide +kernel), List.mem_of_getElem? (i := 1246) (by decide +kernel)⟩
theorem lw_p36 : lw_okq (⟨"RoadsThankedModel", "isOne", "(I)Z"⟩, 56) := ⟨⟨by decide +kernel, by decide +kernel⟩, List.mem_of_getElem? (i := 1029) (by decide +kernel), List.mem_of_getElem? (i := 1249) (by decide +kernel), List.mem_of_getElem? (i := 1250) (by decide +kernel)⟩
theorem lw_p37 : lw_okq (⟨"RoadsThankedModel", "isFit", "(III)Z"⟩, 56) := ⟨⟨by decide +kernel, by decide +kernel⟩, List.mem_of_getElem? (i := 1029) (by decide +kernel), List.mem_of_getElem? (i := 1253) (by decide +kernel), List.mem_of_getElem? (i := 1254) (by decide +kernel)⟩
theorem lw_p38 : lw_okq (⟨"RoadsThankedModel", "get", "(II)I"⟩, 56) := ⟨⟨by decide +kernel, by decide +kernel⟩, List.mem_of_getElem? (i := 1029) (by decide +kernel), List.mem_of_getElem? (i := 1258) (by decide +kernel), List.mem_of_getElem? (i := 1259) (by decide +kernel)⟩
theorem lw_p39 : lw_okq (⟨"RoadsThankedModel", "becomes", "(III)V"⟩, 56) := ⟨⟨by decide +kernel, by decide +kernel⟩, List.mem_of_getElem? (i := 1029) (by decide +kernel), List.mem_of_getElem? (i := 1262) (by decide +kernel), List.mem_of_getElem? (i := 1263) (by decide +kernel)⟩
theorem lw_p40 : lw_okq (⟨"RoadsThankedModel", "isLine", "()Z"⟩, 56) := ⟨⟨by decide +kernel, by decide +kernel⟩, List.mem_of_getElem? (i := 1029) (by decide +kernel), List.mem_of_getElem? (i := 1286) (by decide +kernel), List.mem_of_getElem? (i := 1287) (by decide +kernel)⟩
theorem lw_p41 : lw_okq (⟨"RoadsThankedModel", "isE", "()Z"⟩, 56) := ⟨⟨by decide +kernel, by decide +kernel⟩, List.mem_of_getElem? (i := 1029) (by decide +kernel), List.mem_of_getElem? (i := 1290) (by decide +kernel), List.mem_of_getElem? (i := 1291) (by decide +kernel)⟩
theorem lw_p42 : lw_okq (⟨"RoadsThankedModel", "isA", "()Z"⟩, 56) := ⟨⟨by decide +kernel, by decide +kernel⟩, List.mem_of_getElem? (i := 1029) (by decide +kernel), List.mem_of_getElem? (i := 1294) (by decide +kernel), List.mem_of_getElem? (i := 1295) (by decide +kernel)⟩
theorem lw_p43 : lw_okq (⟨"RoadsThankedModel", "isB", "()Z"⟩, 56) := ⟨⟨by decide +kernel, by decide +kernel⟩, List.mem_of_getElem? (i := 1029) (by decide +kernel), List.mem_of_getElem? (i := 1298) (by decide +kernel), List.mem_of_getElem? (i := 1299) (by decide +kernel)⟩
theorem lw_p44 : lw_okq (⟨"RoadsThankedModel", "isS", "()Z"⟩, 56) := ⟨⟨by decide +kernel, by decide +kernel⟩, List.mem_of_getElem? (i := 1029) (by decide +kernel), List.mem_of_getElem? (i := 1302) (by decide +kernel), List.mem_of_getElem? (i := 1303) (by decide +kernel)⟩
theorem lw_p45 : lw_okq (⟨"RoadsThankedModel", "isP", "()Z"⟩, 56) := ⟨⟨by decide +kernel, by decide +kernel⟩, List.mem_of_getElem? (i := 1029) (by decide +kernel), List.mem_of_getElem? (i := 1306) (by decide +kernel), List.mem_of_getElem? (i := 1307) (by decide +kernel)⟩
theorem lw_p46 : lw_okq (⟨"RoadsThankedModel", "isO", "()Z"⟩, 56) := ⟨⟨by decide +kernel, by decide +kernel⟩, List.mem_of_getElem? (i := 1029) (by decide +kernel), List.mem_of_getElem? (i := 1310) (by decide +kernel), List.mem_of_getElem? (i := 1311) (by decide +kernel)⟩
theorem lw_p47 : lw_okq (⟨"RoadsThankedModel", "isDigit", "()Z"⟩, 56) := ⟨⟨by decide +kernel, by decide +kernel⟩, List.mem_of_getElem? (i := 1029) (by decide +kernel), List.mem_of_getElem? (i := 1314) (by decide +kernel), List.mem_of_getElem? (i := 1315) (by decide +kernel)⟩
def lw_privs_3 : List (MethodName × Nat) := [(⟨"RoadsThankedModel", "newRoad", "(III)I"⟩, 56), (⟨"RoadsThankedModel", "toldAt", "(II)I"⟩, 56), (⟨"RoadsThankedModel", "isOf", "(II)Z"⟩, 56), (⟨"RoadsThankedModel", "isRoad", "(I)Z"⟩, 56), (⟨"RoadsThankedModel", "isOne", "(I)Z"⟩, 56), (⟨"RoadsThankedModel", "isFit", "(III)Z"⟩, 56), (⟨"RoadsThankedModel", "get", "(II)I"⟩, 56), (⟨"RoadsThankedModel", "becomes", "(III)V"⟩, 56), (⟨"RoadsThankedModel", "isLine", "()Z"⟩, 56), (⟨"RoadsThankedModel", "isE", "()Z"⟩, 56), (⟨"RoadsThankedModel", "isA", "()Z"⟩, 56), (⟨"RoadsThankedModel", "isB", "()Z"⟩, 56), (⟨"RoadsThankedModel", "isS", "()Z"⟩, 56), (⟨"RoadsThankedModel", "isP", "()Z"⟩, 56), (⟨"RoadsThankedModel", "isO", "()Z"⟩, 56), (⟨"RoadsThankedModel", "isDigit", "()Z"⟩, 56)]
theorem lw_r3 : ∀ q ∈ lw_privs_3, lw_okq q := List.forall_mem_cons.mpr ⟨lw_p32, List.forall_mem_cons.mpr ⟨lw_p33, List.forall_mem_cons.mpr ⟨lw_p34, List.forall_mem_cons.mpr ⟨lw_p35, List.forall_mem_cons.mpr ⟨lw_p36, List.forall_mem_cons.mpr ⟨lw_p37, List.forall_mem_cons.mpr ⟨lw_p38, List.forall_mem_cons.mpr ⟨lw_p39, List.forall_mem_cons.mpr ⟨lw_p40, List.forall_mem_cons.mpr ⟨lw_p41, List.forall_mem_cons.mpr ⟨lw_p42, List.forall_mem_cons.mpr ⟨lw_p43, List.forall_mem_cons.mpr ⟨lw_p44, List.forall_mem_cons.mpr ⟨lw_p45, List.forall_mem_cons.mpr ⟨lw_p46, List.forall_mem_cons.mpr ⟨lw_p47, fun _ h => absurd h List.not_mem_nil⟩⟩⟩⟩⟩⟩⟩⟩⟩⟩⟩⟩⟩⟩⟩⟩
theorem lw_p48 : lw_okq (⟨"RoadsThankedModel", "sign", "()I"⟩, 56) := ⟨⟨by decide +kernel, by decide +kernel⟩, List.mem_of_getElem? (i := 1029) (by decide +kernel), List.mem_of_getElem? (i := 1318) (by decide +kernel), List.mem_of_getElem? (i := 1319) (by decide +kernel)⟩
theorem lw_p49 : lw_okq (⟨"RoadsThankedModel", "codes", "(I)Z"⟩, 56) := ⟨⟨by decide +kernel, by decide +kernel⟩, List.mem_of_getElem? (i := 1029) (by decide +kernel), List.mem_of_getElem? (i := 1322) (by decide +kernel), List.mem_of_getElem? (i := 1323) (by decide +kernel)⟩
theorem lw_p50 : lw_okq (⟨"RoadsThankedModel", "is", "(I)Z"⟩, 56) := ⟨⟨by decide +kernel, by decide +kernel⟩, List.mem_of_getElem? (i := 1029) (by decide +kernel), List.mem_of_getElem? (i := 1329) (by decide +kernel), List.mem_of_getElem? (i := 1330) (by decide +kernel)⟩
theorem lw_p51 : lw_okq (⟨"RoadsThankedModel", "allHours", "()I"⟩, 56) := ⟨⟨by decide +kernel, by decide +kernel⟩, List.mem_of_getElem? (i := 1029) (by decide +kernel), List.mem_of_getElem? (i := 1337) (by decide +kernel), List.mem_of_getElem? (i := 1338) (by decide +kernel)⟩
theorem lw_p52 : lw_okq (⟨"RoadsThankedModel", "hoursOf", "(I)I"⟩, 56) := ⟨⟨by decide +kernel, by decide +kernel⟩, List.mem_of_getElem? (i := 1029) (by decide +kernel), List.mem_of_getElem? (i := 1341) (by decide +kernel), List.mem_of_getElem? (i := 1342) (by decide +kernel)⟩
theorem lw_p53 : lw_okq (⟨"RoadsThankedModel", "byLaw", "(I)I"⟩, 56) := ⟨⟨by decide +kernel, by decide +kernel⟩, List.mem_of_getElem? (i := 1029) (by decide +kernel), List.mem_of_getElem? (i := 1345) (by decide +kernel), List.mem_of_getElem? (i := 1346) (by decide +kernel)⟩
theorem lw_p54 : lw_okq (⟨"RoadsThankedModel", "knots", "(I)I"⟩, 56) := ⟨⟨by decide +kernel, by decide +kernel⟩, List.mem_of_getElem? (i := 1029) (by decide +kernel), List.mem_of_getElem? (i := 1350) (by decide +kernel), List.mem_of_getElem? (i := 1351) (by decide +kernel)⟩
theorem lw_p55 : lw_okq (⟨"RoadsThankedModel", "isPloughed", "(I)Z"⟩, 56) := ⟨⟨by decide +kernel, by decide +kernel⟩, List.mem_of_getElem? (i := 1029) (by decide +kernel), List.mem_of_getElem? (i := 1354) (by decide +kernel), List.mem_of_getElem? (i := 1355) (by decide +kernel)⟩
theorem lw_p56 : lw_okq (⟨"RoadsThankedModel", "endsAt", "(II)Z"⟩, 56) := ⟨⟨by decide +kernel, by decide +kernel⟩, List.mem_of_getElem? (i := 1029) (by decide +kernel), List.mem_of_getElem? (i := 1358) (by decide +kernel), List.mem_of_getElem? (i := 1359) (by decide +kernel)⟩
theorem lw_p57 : lw_okq (⟨"RoadsThankedModel", "worked", "(II)I"⟩, 56) := ⟨⟨by decide +kernel, by decide +kernel⟩, List.mem_of_getElem? (i := 1029) (by decide +kernel), List.mem_of_getElem? (i := 1362) (by decide +kernel), List.mem_of_getElem? (i := 1363) (by decide +kernel)⟩
theorem lw_p58 : lw_okq (⟨"RoadsThankedModel", "wayOf", "(I)I"⟩, 56) := ⟨⟨by decide +kernel, by decide +kernel⟩, List.mem_of_getElem? (i := 1029) (by decide +kernel), List.mem_of_getElem? (i := 1374) (by decide +kernel), List.mem_of_getElem? (i := 1375) (by decide +kernel)⟩
theorem lw_p59 : lw_okq (⟨"RoadsThankedModel", "looks", "(I)V"⟩, 56) := ⟨⟨by decide +kernel, by decide +kernel⟩, List.mem_of_getElem? (i := 1029) (by decide +kernel), List.mem_of_getElem? (i := 1378) (by decide +kernel), List.mem_of_getElem? (i := 1379) (by decide +kernel)⟩
theorem lw_p60 : lw_okq (⟨"RoadsThankedModel", "along", "(II)I"⟩, 56) := ⟨⟨by decide +kernel, by decide +kernel⟩, List.mem_of_getElem? (i := 1029) (by decide +kernel), List.mem_of_getElem? (i := 1382) (by decide +kernel), List.mem_of_getElem? (i := 1383) (by decide +kernel)⟩
theorem lw_p61 : lw_okq (⟨"RoadsThankedModel", "wayWithout", "(II)I"⟩, 56) := ⟨⟨by decide +kernel, by decide +kernel⟩, List.mem_of_getElem? (i := 1029) (by decide +kernel), List.mem_of_getElem? (i := 1394) (by decide +kernel), List.mem_of_getElem? (i := 1395) (by decide +kernel)⟩
theorem lw_p62 : lw_okq (⟨"RoadsThankedModel", "keeps", "([I)V"⟩, 56) := ⟨⟨by decide +kernel, by decide +kernel⟩, List.mem_of_getElem? (i := 1029) (by decide +kernel), List.mem_of_getElem? (i := 1406) (by decide +kernel), List.mem_of_getElem? (i := 1407) (by decide +kernel)⟩
theorem lw_p63 : lw_okq (⟨"RoadsThankedModel", "goesAll", "(II)V"⟩, 56) := ⟨⟨by decide +kernel, by decide +kernel⟩, List.mem_of_getElem? (i := 1029) (by decide +kernel), List.mem_of_getElem? (i := 1410) (by decide +kernel), List.mem_of_getElem? (i := 1411) (by decide +kernel)⟩
def lw_privs_4 : List (MethodName × Nat) := [(⟨"RoadsThankedModel", "sign", "()I"⟩, 56), (⟨"RoadsThankedModel", "codes", "(I)Z"⟩, 56), (⟨"RoadsThankedModel", "is", "(I)Z"⟩, 56), (⟨"RoadsThankedModel", "allHours", "()I"⟩, 56), (⟨"RoadsThankedModel", "hoursOf", "(I)I"⟩, 56), (⟨"RoadsThankedModel", "byLaw", "(I)I"⟩, 56), (⟨"RoadsThankedModel", "knots", "(I)I"⟩, 56), (⟨"RoadsThankedModel", "isPloughed", "(I)Z"⟩, 56), (⟨"RoadsThankedModel", "endsAt", "(II)Z"⟩, 56), (⟨"RoadsThankedModel", "worked", "(II)I"⟩, 56), (⟨"RoadsThankedModel", "wayOf", "(I)I"⟩, 56), (⟨"RoadsThankedModel", "looks", "(I)V"⟩, 56), (⟨"RoadsThankedModel", "along", "(II)I"⟩, 56), (⟨"RoadsThankedModel", "wayWithout", "(II)I"⟩, 56), (⟨"RoadsThankedModel", "keeps", "([I)V"⟩, 56), (⟨"RoadsThankedModel", "goesAll", "(II)V"⟩, 56)]
theorem lw_r4 : ∀ q ∈ lw_privs_4, lw_okq q := List.forall_mem_cons.mpr ⟨lw_p48, List.forall_mem_cons.mpr ⟨lw_p49, List.forall_mem_cons.mpr ⟨lw_p50, List.forall_mem_cons.mpr ⟨lw_p51, List.forall_mem_cons.mpr ⟨lw_p52, List.forall_mem_cons.mpr ⟨lw_p53, List.forall_mem_cons.mpr ⟨lw_p54, List.forall_mem_cons.mpr ⟨lw_p55, List.forall_mem_cons.mpr ⟨lw_p56, List.forall_mem_cons.mpr ⟨lw_p57, List.forall_mem_cons.mpr ⟨lw_p58, List.forall_mem_cons.mpr ⟨lw_p59, List.forall_mem_cons.mpr ⟨lw_p60, List.forall_mem_cons.mpr ⟨lw_p61, List.forall_mem_cons.mpr ⟨lw_p62, List.forall_mem_cons.mpr ⟨lw_p63, fun _ h => absurd h List.not_mem_nil⟩⟩⟩⟩⟩⟩⟩⟩⟩⟩⟩⟩⟩⟩⟩⟩
theorem lw_p64 : lw_okq (⟨"RoadsThankedModel", "word", "(II)V"⟩, 56) := ⟨⟨by decide +kernel, by decide +kernel⟩, List.mem_of_getElem? (i := 1029) (by decide +kernel), List.mem_of_getElem? (i := 1414) (by decide +kernel), List.mem_of_getElem? (i := 1415) (by decide +kernel)⟩
theorem lw_p65 : lw_okq (⟨"RoadsThankedModel", "again", "([I)V"⟩, 56) := ⟨⟨by decide +kernel, by decide +kernel⟩, List.mem_of_getElem? (i := 1029) (by decide +kernel), List.mem_of_getElem? (i := 1421) (by decide +kernel), List.mem_of_getElem? (i := 1422) (by decide +kernel)⟩
theorem lw_p66 : lw_okq (⟨"RoadsThankedModel", "rounds", "(IIIII)V"⟩, 56) := ⟨⟨by decide +kernel, by decide +kernel⟩, List.mem_of_getElem? (i := 1029) (by decide +kernel), List.mem_of_getElem? (i := 1429) (by decide +kernel), List.mem_of_getElem? (i := 1430) (by decide +kernel)⟩
theorem lw_p67 : lw_okq (⟨"RoadsThankedModel", "isEnough", "(IIIII)Z"⟩, 56) := ⟨⟨by decide +kernel, by decide +kernel⟩, List.mem_of_getElem? (i := 1029) (by decide +kernel), List.mem_of_getElem? (i := 1437) (by decide +kernel), List.mem_of_getElem? (i := 1438) (by decide +kernel)⟩
theorem lw_p68 : lw_okq (⟨"RoadsThankedModel", "isPeace", "(I)Z"⟩, 56) := ⟨⟨by decide +kernel, by decide +kernel⟩, List.mem_of_getElem? (i := 1029) (by decide +kernel), List.mem_of_getElem? (i := 1454) (by decide +kernel), List.mem_of_getElem? (i := 1455) (by decide +kernel)⟩
theorem lw_p69 : lw_okq (⟨"RoadsThankedModel", "noSunday", "(I)I"⟩, 56) := ⟨⟨by decide +kernel, by decide +kernel⟩, List.mem_of_getElem? (i := 1029) (by decide +kernel), List.mem_of_getElem? (i := 1466) (by decide +kernel), List.mem_of_getElem? (i := 1467) (by decide +kernel)⟩
theorem lw_p70 : lw_okq (⟨"RoadsThankedModel", "unlike", "(I)I"⟩, 56) := ⟨⟨by decide +kernel, by decide +kernel⟩, List.mem_of_getElem? (i := 1029) (by decide +kernel), List.mem_of_getElem? (i := 1470) (by decide +kernel), List.mem_of_getElem? (i := 1471) (by decide +kernel)⟩
theorem lw_p71 : lw_okq (⟨"RoadsThankedModel", "byTwo", "(I)I"⟩, 56) := ⟨⟨by decide +kernel, by decide +kernel⟩, List.mem_of_getElem? (i := 1029) (by decide +kernel), List.mem_of_getElem? (i := 1478) (by decide +kernel), List.mem_of_getElem? (i := 1479) (by decide +kernel)⟩
theorem lw_p72 : lw_okq (⟨"RoadsThankedModel", "isDeed", "(I)Z"⟩, 56) := ⟨⟨by decide +kernel, by decide +kernel⟩, List.mem_of_getElem? (i := 1029) (by decide +kernel), List.mem_of_getElem? (i := 1482) (by decide +kernel), List.mem_of_getElem? (i := 1483) (by decide +kernel)⟩
theorem lw_p73 : lw_okq (⟨"RoadsThankedModel", "deed", "(I)V"⟩, 56) := ⟨⟨by decide +kernel, by decide +kernel⟩, List.mem_of_getElem? (i := 1029) (by decide +kernel), List.mem_of_getElem? (i := 1486) (by decide +kernel), List.mem_of_getElem? (i := 1487) (by decide +kernel)⟩
theorem lw_p74 : lw_okq (⟨"RoadsThankedModel", "byOne", "(II)I"⟩, 56) := ⟨⟨by decide +kernel, by decide +kernel⟩, List.mem_of_getElem? (i := 1029) (by decide +kernel), List.mem_of_getElem? (i := 1490) (by decide +kernel), List.mem_of_getElem? (i := 1491) (by decide +kernel)⟩
theorem lw_p75 : lw_okq (⟨"RoadsThankedModel", "wanted", "(I)I"⟩, 56) := ⟨⟨by decide +kernel, by decide +kernel⟩, List.mem_of_getElem? (i := 1029) (by decide +kernel), List.mem_of_getElem? (i := 1498) (by decide +kernel), List.mem_of_getElem? (i := 1499) (by decide +kernel)⟩
theorem lw_p76 : lw_okq (⟨"RoadsThankedModel", "answered", "(I)I"⟩, 56) := ⟨⟨by decide +kernel, by decide +kernel⟩, List.mem_of_getElem? (i := 1029) (by decide +kernel), List.mem_of_getElem? (i := 1502) (by decide +kernel), List.mem_of_getElem? (i := 1503) (by decide +kernel)⟩
theorem lw_p77 : lw_okq (⟨"RoadsThankedModel", "leadsBy", "(III)I"⟩, 56) := ⟨⟨by decide +kernel, by decide +kernel⟩, List.mem_of_getElem? (i := 1029) (by decide +kernel), List.mem_of_getElem? (i := 1539) (by decide +kernel), List.mem_of_getElem? (i := 1540) (by decide +kernel)⟩
theorem lw_p78 : lw_okq (⟨"RoadsThankedModel", "ran", "(I)V"⟩, 56) := ⟨⟨by decide +kernel, by decide +kernel⟩, List.mem_of_getElem? (i := 1029) (by decide +kernel), List.mem_of_getElem? (i := 1543) (by decide +kernel), List.mem_of_getElem? (i := 1544) (by decide +kernel)⟩
theorem lw_p79 : lw_okq (⟨"RoadsThankedModel", "thanksBy", "(III)I"⟩, 56) := ⟨⟨by decide +kernel, by decide +kernel⟩, List.mem_of_getElem? (i := 1029) (by decide +kernel), List.mem_of_getElem? (i := 1550) (by decide +kernel), List.mem_of_getElem? (i := 1551) (by decide +kernel)⟩
def lw_privs_5 : List (MethodName × Nat) := [(⟨"RoadsThankedModel", "word", "(II)V"⟩, 56), (⟨"RoadsThankedModel", "again", "([I)V"⟩, 56), (⟨"RoadsThankedModel", "rounds", "(IIIII)V"⟩, 56), (⟨"RoadsThankedModel", "isEnough", "(IIIII)Z"⟩, 56), (⟨"RoadsThankedModel", "isPeace", "(I)Z"⟩, 56), (⟨"RoadsThankedModel", "noSunday", "(I)I"⟩, 56), (⟨"RoadsThankedModel", "unlike", "(I)I"⟩, 56), (⟨"RoadsThankedModel", "byTwo", "(I)I"⟩, 56), (⟨"RoadsThankedModel", "isDeed", "(I)Z"⟩, 56), (⟨"RoadsThankedModel", "deed", "(I)V"⟩, 56), (⟨"RoadsThankedModel", "byOne", "(II)I"⟩, 56), (⟨"RoadsThankedModel", "wanted", "(I)I"⟩, 56), (⟨"RoadsThankedModel", "answered", "(I)I"⟩, 56), (⟨"RoadsThankedModel", "leadsBy", "(III)I"⟩, 56), (⟨"RoadsThankedModel", "ran", "(I)V"⟩, 56), (⟨"RoadsThankedModel", "thanksBy", "(III)I"⟩, 56)]
theorem lw_r5 : ∀ q ∈ lw_privs_5, lw_okq q := List.forall_mem_cons.mpr ⟨lw_p64, List.forall_mem_cons.mpr ⟨lw_p65, List.forall_mem_cons.mpr ⟨lw_p66, List.forall_mem_cons.mpr ⟨lw_p67, List.forall_mem_cons.mpr ⟨lw_p68, List.forall_mem_cons.mpr ⟨lw_p69, List.forall_mem_cons.mpr ⟨lw_p70, List.forall_mem_cons.mpr ⟨lw_p71, List.forall_mem_cons.mpr ⟨lw_p72, List.forall_mem_cons.mpr ⟨lw_p73, List.forall_mem_cons.mpr ⟨lw_p74, List.forall_mem_cons.mpr ⟨lw_p75, List.forall_mem_cons.mpr ⟨lw_p76, List.forall_mem_cons.mpr ⟨lw_p77, List.forall_mem_cons.mpr ⟨lw_p78, List.forall_mem_cons.mpr ⟨lw_p79, fun _ h => absurd h List.not_mem_nil⟩⟩⟩⟩⟩⟩⟩⟩⟩⟩⟩⟩⟩⟩⟩⟩
theorem lw_p80 : lw_okq (⟨"RoadsThankedModel", "sulksBy", "(III)I"⟩, 56) := ⟨⟨by decide +kernel, by decide +kernel⟩, List.mem_of_getElem? (i := 1029) (by decide +kernel), List.mem_of_getElem? (i := 1554) (by decide +kernel), List.mem_of_getElem? (i := 1555) (by decide +kernel)⟩
theorem lw_p81 : lw_okq (⟨"RoadsThankedModel", "tells", "(III)I"⟩, 56) := ⟨⟨by decide +kernel, by decide +kernel⟩, List.mem_of_getElem? (i := 1029) (by decide +kernel), List.mem_of_getElem? (i := 1558) (by decide +kernel), List.mem_of_getElem? (i := 1559) (by decide +kernel)⟩
theorem lw_p82 : lw_okq (⟨"RoadsThankedModel", "isRow", "(I)Z"⟩, 56) := ⟨⟨by decide +kernel, by decide +kernel⟩, List.mem_of_getElem? (i := 1029) (by decide +kernel), List.mem_of_getElem? (i := 1578) (by decide +kernel), List.mem_of_getElem? (i := 1579) (by decide +kernel)⟩
def lw_privs_6 : List (MethodName × Nat) := [(⟨"RoadsThankedModel", "sulksBy", "(III)I"⟩, 56), (⟨"RoadsThankedModel", "tells", "(III)I"⟩, 56), (⟨"RoadsThankedModel", "isRow", "(I)Z"⟩, 56)]
theorem lw_r6 : ∀ q ∈ lw_privs_6, lw_okq q := List.forall_mem_cons.mpr ⟨lw_p80, List.forall_mem_cons.mpr ⟨lw_p81, List.forall_mem_cons.mpr ⟨lw_p82, fun _ h => absurd h List.not_mem_nil⟩⟩⟩
def lw_privs : List (MethodName × Nat) := lw_privs_1 ++ (lw_privs_2 ++ (lw_privs_3 ++ (lw_privs_4 ++ (lw_privs_5 ++ (lw_privs_6)))))
def lw_tbl : List Cond := k2_sels lw_privs ++ tables_1
theorem lw_privs_ok : ∀ q ∈ lw_privs, lw_okq q := by
  show ∀ q ∈ lw_privs_1 ++ (lw_privs_2 ++ (lw_privs_3 ++ (lw_privs_4 ++ (lw_privs_5 ++ (lw_privs_6))))), lw_okq q
  exact List.forall_mem_append.mpr ⟨lw_r1, List.forall_mem_append.mpr ⟨lw_r2, List.forall_mem_append.mpr ⟨lw_r3, List.forall_mem_append.mpr ⟨lw_r4, List.forall_mem_append.mpr ⟨lw_r5, lw_r6⟩⟩⟩⟩⟩
def RX0 : String := "RoadsThanked$History"
def TX0 : u_T := fun k => match k with
  | 0 => ("RoadsThanked$History", "net", "LRoadsThanked$Net;", true)
  | 1 => ("RoadsThanked$History", "numbers", "[I", true)
  | 2 => ("RoadsThanked$History", "whats", "[I", true)
  | 3 => ("RoadsThanked$History", "before", "[I", true)
  | 4 => ("RoadsThanked$History", "behind", "[I", true)
  | 5 => ("RoadsThanked$History", "done", "I", false)
  | _ => ("RoadsThanked$History", "made", "I", false)
def tyX0 : Nat → FieldType := fun k => match k with
  | 0 => .object "RoadsThanked$Net"
  | 1 => .array .int
  | 2 => .array .int
  | 3 => .array .int
  | 4 => .array .int
  | 5 => .int
  | _ => .int
abbrev wsX00 : List Cond := u_ws RX0 TX0 7
theorem nmX0 : ∀ a, a < 7 → ∀ b, b < 7 → a ≠ b → (TX0 a).2.1 ≠ (TX0 b).2.1 := by decide +kernel
theorem tyX0_ok : ∀ k, k < 7 → parseFieldDescriptor (TX0 k).2.2.1 = some (tyX0 k) := by decide +kernel
abbrev cX0_init : ByteArray := prog_2_method_1_code
def yX0_init : MethodName := ⟨RX0, "<init>", "(LRoadsThanked$Net;)V"⟩
abbrev cX0_remember : ByteArray := prog_2_method_2_code
def yX0_remember : MethodName := ⟨RX0, "remember", "(IIII)V"⟩
abbrev cX0_forgetOldest : ByteArray := prog_2_method_3_code
def yX0_forgetOldest : MethodName := ⟨RX0, "forgetOldest", "()V"⟩
abbrev cX0_stepBack : ByteArray := prog_2_method_4_code
def yX0_stepBack : MethodName := ⟨RX0, "stepBack", "()V"⟩
abbrev cX0_stepOn : ByteArray := prog_2_method_5_code
def yX0_stepOn : MethodName := ⟨RX0, "stepOn", "()V"⟩
def RX1 : String := "RoadsThanked$Image"
def TX1 : u_T := fun k => match k with
  | 0 => ("RoadsThanked$Image", "net", "LRoadsThanked$Net;", true)
  | 1 => ("RoadsThanked$Image", "isThere", "Z", false)
  | 2 => ("RoadsThanked$Image", "roadCount", "I", false)
  | 3 => ("RoadsThanked$Image", "travellerCount", "I", false)
  | 4 => ("RoadsThanked$Image", "moods", "[I", true)
  | 5 => ("RoadsThanked$Image", "places", "[I", true)
  | _ => ("RoadsThanked$Image", "led", "[I", true)
def tyX1 : Nat → FieldType := fun k => match k with
  | 0 => .object "RoadsThanked$Net"
  | 1 => .boolean
  | 2 => .int
  | 3 => .int
  | 4 => .array .int
  | 5 => .array .int
  | _ => .array .int
abbrev wsX10 : List Cond := u_ws RX1 TX1 7
theorem nmX1 : ∀ a, a < 7 → ∀ b, b < 7 → a ≠ b → (TX1 a).2.1 ≠ (TX1 b).2.1 := by decide +kernel
theorem tyX1_ok : ∀ k, k < 7 → parseFieldDescriptor (TX1 k).2.2.1 = some (tyX1 k) := by decide +kernel
abbrev cX1_init : ByteArray := prog_3_method_1_code
def yX1_init : MethodName := ⟨RX1, "<init>", "(LRoadsThanked$Net;)V"⟩
abbrev cX1_take : ByteArray := prog_3_method_2_code
def yX1_take : MethodName := ⟨RX1, "take", "()V"⟩
abbrev cX1_layBack : ByteArray := prog_3_method_3_code
def yX1_layBack : MethodName := ⟨RX1, "layBack", "()V"⟩
def RX2 : String := "RoadsThanked$Law"
def TX2 : u_T := fun k => match k with
  | 0 => ("RoadsThanked$Law", "steps", "[I", true)
  | 1 => ("RoadsThanked$Law", "size", "I", false)
  | 2 => ("RoadsThanked$Law", "stack", "[I", true)
  | _ => ("RoadsThanked$Law", "top", "I", false)
def tyX2 : Nat → FieldType := fun k => match k with
  | 0 => .array .int
  | 1 => .int
  | 2 => .array .int
  | _ => .int
abbrev wsX20 : List Cond := u_ws RX2 TX2 4
theorem nmX2 : ∀ a, a < 4 → ∀ b, b < 4 → a ≠ b → (TX2 a).2.1 ≠ (TX2 b).2.1 := by decide +kernel
theorem tyX2_ok : ∀ k, k < 4 → parseFieldDescriptor (TX2 k).2.2.1 = some (tyX2 k) := by decide +kernel
abbrev cX2_init : ByteArray := prog_4_method_1_code
def yX2_init : MethodName := ⟨RX2, "<init>", "()V"⟩
abbrev cX2_take : ByteArray := prog_4_method_2_code
def yX2_take : MethodName := ⟨RX2, "take", "([II)V"⟩
abbrev cX2_work : ByteArray := prog_4_method_3_code
def yX2_work : MethodName := ⟨RX2, "work", "(IIIIII)I"⟩
abbrev cX2_endOfLine : ByteArray := prog_4_method_4_code
def yX2_endOfLine : MethodName := ⟨RX2, "endOfLine", "(I)I"⟩
abbrev cX2_joined : ByteArray := prog_4_method_5_code
def yX2_joined : MethodName := ⟨RX2, "joined", "(III)I"⟩
abbrev cX2_push : ByteArray := prog_4_method_6_code
def yX2_push : MethodName := ⟨RX2, "push", "(I)V"⟩
abbrev cX2_pop : ByteArray := prog_4_method_7_code
def yX2_pop : MethodName := ⟨RX2, "pop", "()I"⟩
def RX3 : String := "RoadsThanked$Net"
def TX3 : u_T := fun k => match k with
  | 0 => ("RoadsThanked$Net", "roadCount", "I", false)
  | 1 => ("RoadsThanked$Net", "travellerCount", "I", false)
  | 2 => ("RoadsThanked$Net", "from", "[I", true)
  | 3 => ("RoadsThanked$Net", "to", "[I", true)
  | 4 => ("RoadsThanked$Net", "lengths", "[I", true)
  | 5 => ("RoadsThanked$Net", "moods", "[I", true)
  | 6 => ("RoadsThanked$Net", "jealous", "[I", true)
  | 7 => ("RoadsThanked$Net", "ploughed", "[I", true)
  | 8 => ("RoadsThanked$Net", "places", "[I", true)
  | 9 => ("RoadsThanked$Net", "manners", "[I", true)
  | _ => ("RoadsThanked$Net", "led", "[I", true)
def tyX3 : Nat → FieldType := fun k => match k with
  | 0 => .int
  | 1 => .int
  | 2 => .array .int
  | 3 => .array .int
  | 4 => .array .int
  | 5 => .array .int
  | 6 => .array .int
  | 7 => .array .int
  | 8 => .array .int
  | 9 => .array .int
  | _ => .array .int
abbrev wsX30 : List Cond := u_ws RX3 TX3 11
theorem nmX3 : ∀ a, a < 11 → ∀ b, b < 11 → a ≠ b → (TX3 a).2.1 ≠ (TX3 b).2.1 := by decide +kernel
theorem tyX3_ok : ∀ k, k < 11 → parseFieldDescriptor (TX3 k).2.2.1 = some (tyX3 k) := by decide +kernel
abbrev cX3_init : ByteArray := prog_5_method_1_code
def yX3_init : MethodName := ⟨RX3, "<init>", "()V"⟩
abbrev cX3_isRoad : ByteArray := prog_5_method_2_code
def yX3_isRoad : MethodName := ⟨RX3, "isRoad", "(I)Z"⟩
abbrev cX3_isTraveller : ByteArray := prog_5_method_3_code
def yX3_isTraveller : MethodName := ⟨RX3, "isTraveller", "(I)Z"⟩
abbrev cX3_addRoad : ByteArray := prog_5_method_4_code
def yX3_addRoad : MethodName := ⟨RX3, "addRoad", "(III)I"⟩
abbrev cX3_addTraveller : ByteArray := prog_5_method_5_code
def yX3_addTraveller : MethodName := ⟨RX3, "addTraveller", "(I)I"⟩
abbrev cX3_has : ByteArray := prog_5_method_6_code
def yX3_has : MethodName := ⟨RX3, "has", "(II)Z"⟩
abbrev cX3_column : ByteArray := prog_5_method_7_code
def yX3_column : MethodName := ⟨RX3, "column", "(I)[I"⟩
abbrev cX3_fits : ByteArray := prog_5_method_8_code
def yX3_fits : MethodName := ⟨RX3, "fits", "(III)Z"⟩
abbrev cX3_otherEnd : ByteArray := prog_5_method_9_code
def yX3_otherEnd : MethodName := ⟨RX3, "otherEnd", "(II)I"⟩
abbrev cX3_touch : ByteArray := prog_5_method_10_code
def yX3_touch : MethodName := ⟨RX3, "touch", "(II)Z"⟩
abbrev cX3_say : ByteArray := prog_5_method_11_code
def yX3_say : MethodName := ⟨RX3, "say", "([III)V"⟩
abbrev cX3_calmMoods : ByteArray := prog_5_method_12_code
def yX3_calmMoods : MethodName := ⟨RX3, "calmMoods", "()V"⟩
abbrev cX3_joins : ByteArray := prog_5_method_13_code
def yX3_joins : MethodName := ⟨RX3, "joins", "(III)Z"⟩
abbrev cX3_jealousOf : ByteArray := prog_5_method_14_code
def yX3_jealousOf : MethodName := ⟨RX3, "jealousOf", "(I)I"⟩
abbrev cX3_mostInPeace : ByteArray := prog_5_method_15_code
def yX3_mostInPeace : MethodName := ⟨RX3, "mostInPeace", "()I"⟩
abbrev cX3_isPeace : ByteArray := prog_5_method_16_code
def yX3_isPeace : MethodName := ⟨RX3, "isPeace", "(I)Z"⟩
abbrev cX3_ringOf : ByteArray := prog_5_method_17_code
def yX3_ringOf : MethodName := ⟨RX3, "ringOf", "(I)I"⟩
abbrev cX3_chainFrom : ByteArray := prog_5_method_18_code
def yX3_chainFrom : MethodName := ⟨RX3, "chainFrom", "(I)I"⟩
def RX4 : String := "RoadsThanked$Reader"
def TX4 : u_T := fun k => match k with
  | 0 => ("RoadsThanked$Reader", "letters", "[I", true)
  | 1 => ("RoadsThanked$Reader", "length", "I", false)
  | 2 => ("RoadsThanked$Reader", "steps", "[I", true)
  | 3 => ("RoadsThanked$Reader", "size", "I", false)
  | 4 => ("RoadsThanked$Reader", "at", "I", false)
  | _ => ("RoadsThanked$Reader", "fault", "I", false)
def tyX4 : Nat → FieldType := fun k => match k with
  | 0 => .array .int
  | 1 => .int
  | 2 => .array .int
  | 3 => .int
  | 4 => .int
  | _ => .int
abbrev wsX40 : List Cond := u_ws RX4 TX4 6
theorem nmX4 : ∀ a, a < 6 → ∀ b, b < 6 → a ≠ b → (TX4 a).2.1 ≠ (TX4 b).2.1 := by decide +kernel
theorem tyX4_ok : ∀ k, k < 6 → parseFieldDescriptor (TX4 k).2.2.1 = some (tyX4 k) := by decide +kernel
abbrev cX4_init : ByteArray := prog_6_method_1_code
def yX4_init : MethodName := ⟨RX4, "<init>", "()V"⟩
abbrev cX4_append : ByteArray := prog_6_method_2_code
def yX4_append : MethodName := ⟨RX4, "append", "(I)I"⟩
abbrev cX4_read : ByteArray := prog_6_method_3_code
def yX4_read : MethodName := ⟨RX4, "read", "()I"⟩
abbrev cX4_readLine : ByteArray := prog_6_method_4_code
def yX4_readLine : MethodName := ⟨RX4, "readLine", "()V"⟩
abbrev cX4_readJoined : ByteArray := prog_6_method_5_code
def yX4_readJoined : MethodName := ⟨RX4, "readJoined", "(II)V"⟩
abbrev cX4_readPart : ByteArray := prog_6_method_6_code
def yX4_readPart : MethodName := ⟨RX4, "readPart", "(II)V"⟩
abbrev cX4_readOperand : ByteArray := prog_6_method_7_code
def yX4_readOperand : MethodName := ⟨RX4, "readOperand", "(I)V"⟩
abbrev cX4_readClosing : ByteArray := prog_6_method_8_code
def yX4_readClosing : MethodName := ⟨RX4, "readClosing", "()V"⟩
abbrev cX4_readNumber : ByteArray := prog_6_method_9_code
def yX4_readNumber : MethodName := ⟨RX4, "readNumber", "()V"⟩
abbrev cX4_next : ByteArray := prog_6_method_10_code
def yX4_next : MethodName := ⟨RX4, "next", "()I"⟩
abbrev cX4_blame : ByteArray := prog_6_method_11_code
def yX4_blame : MethodName := ⟨RX4, "blame", "()V"⟩
abbrev cX4_addStep : ByteArray := prog_6_method_12_code
def yX4_addStep : MethodName := ⟨RX4, "addStep", "(I)V"⟩
abbrev cX4_isDigit : ByteArray := prog_6_method_13_code
def yX4_isDigit : MethodName := ⟨RX4, "isDigit", "(I)Z"⟩
abbrev cX4_isName : ByteArray := prog_6_method_14_code
def yX4_isName : MethodName := ⟨RX4, "isName", "(I)Z"⟩
abbrev cX4_isSign : ByteArray := prog_6_method_15_code
def yX4_isSign : MethodName := ⟨RX4, "isSign", "(II)Z"⟩
def RX5 : String := "RoadsThanked$Rounds"
def TX5 : u_T := fun k => match k with
  | 0 => ("RoadsThanked$Rounds", "thought", "LRoadsThanked$Thought;", true)
  | 1 => ("RoadsThanked$Rounds", "table", "[I", true)
  | 2 => ("RoadsThanked$Rounds", "tried", "[I", true)
  | 3 => ("RoadsThanked$Rounds", "order", "[I", true)
  | 4 => ("RoadsThanked$Rounds", "start", "I", false)
  | _ => ("RoadsThanked$Rounds", "fewest", "I", false)
def tyX5 : Nat → FieldType := fun k => match k with
  | 0 => .object "RoadsThanked$Thought"
  | 1 => .array .int
  | 2 => .array .int
  | 3 => .array .int
  | 4 => .int
  | _ => .int
abbrev wsX50 : List Cond := u_ws RX5 TX5 6
theorem nmX5 : ∀ a, a < 6 → ∀ b, b < 6 → a ≠ b → (TX5 a).2.1 ≠ (TX5 b).2.1 := by decide +kernel
theorem tyX5_ok : ∀ k, k < 6 → parseFieldDescriptor (TX5 k).2.2.1 = some (tyX5 k) := by decide +kernel
abbrev cX5_init : ByteArray := prog_7_method_1_code
def yX5_init : MethodName := ⟨RX5, "<init>", "(LRoadsThanked$Thought;)V"⟩
abbrev cX5_seek : ByteArray := prog_7_method_2_code
def yX5_seek : MethodName := ⟨RX5, "seek", "(II)V"⟩
abbrev cX5_goOn : ByteArray := prog_7_method_3_code
def yX5_goOn : MethodName := ⟨RX5, "goOn", "(IIII)V"⟩
abbrev cX5_finish : ByteArray := prog_7_method_4_code
def yX5_finish : MethodName := ⟨RX5, "finish", "(I)V"⟩
def RX6 : String := "RoadsThanked$Search"
def TX6 : u_T := fun k => match k with
  | 0 => ("RoadsThanked$Search", "net", "LRoadsThanked$Net;", true)
  | 1 => ("RoadsThanked$Search", "thought", "LRoadsThanked$Thought;", true)
  | 2 => ("RoadsThanked$Search", "picks", "[I", true)
  | 3 => ("RoadsThanked$Search", "behindFirst", "[I", true)
  | 4 => ("RoadsThanked$Search", "value", "I", false)
  | _ => ("RoadsThanked$Search", "deed", "I", false)
def tyX6 : Nat → FieldType := fun k => match k with
  | 0 => .object "RoadsThanked$Net"
  | 1 => .object "RoadsThanked$Thought"
  | 2 => .array .int
  | 3 => .array .int
  | 4 => .int
  | _ => .int
abbrev wsX60 : List Cond := u_ws RX6 TX6 6
theorem nmX6 : ∀ a, a < 6 → ∀ b, b < 6 → a ≠ b → (TX6 a).2.1 ≠ (TX6 b).2.1 := by decide +kernel
theorem tyX6_ok : ∀ k, k < 6 → parseFieldDescriptor (TX6 k).2.2.1 = some (tyX6 k) := by decide +kernel
abbrev cX6_init : ByteArray := prog_8_method_1_code
def yX6_init : MethodName := ⟨RX6, "<init>", "(LRoadsThanked$Net;LRoadsThanked$Thought;)V"⟩
abbrev cX6_fewestThanks : ByteArray := prog_8_method_2_code
def yX6_fewestThanks : MethodName := ⟨RX6, "fewestThanks", "(III)I"⟩
abbrev cX6_findThanks : ByteArray := prog_8_method_3_code
def yX6_findThanks : MethodName := ⟨RX6, "findThanks", "(IIII)Z"⟩
abbrev cX6_nextPicks : ByteArray := prog_8_method_4_code
def yX6_nextPicks : MethodName := ⟨RX6, "nextPicks", "(I)Z"⟩
abbrev cX6_bestThanks : ByteArray := prog_8_method_5_code
def yX6_bestThanks : MethodName := ⟨RX6, "bestThanks", "()V"⟩
abbrev cX6_perform : ByteArray := prog_8_method_6_code
def yX6_perform : MethodName := ⟨RX6, "perform", "(I)V"⟩
abbrev cX6_turns : ByteArray := prog_8_method_7_code
def yX6_turns : MethodName := ⟨RX6, "turns", "()I"⟩
abbrev cX6_numberOf : ByteArray := prog_8_method_8_code
def yX6_numberOf : MethodName := ⟨RX6, "numberOf", "(I)I"⟩
abbrev cX6_deedsThatFit : ByteArray := prog_8_method_9_code
def yX6_deedsThatFit : MethodName := ⟨RX6, "deedsThatFit", "(LRoadsThanked$Shelf;)V"⟩
abbrev cX6_pairsThatFit : ByteArray := prog_8_method_10_code
def yX6_pairsThatFit : MethodName := ⟨RX6, "pairsThatFit", "(LRoadsThanked$Shelf;)I"⟩
abbrev cX6_performFirst : ByteArray := prog_8_method_11_code
def yX6_performFirst : MethodName := ⟨RX6, "performFirst", "(I)V"⟩
abbrev cX6_performSecond : ByteArray := prog_8_method_12_code
def yX6_performSecond : MethodName := ⟨RX6, "performSecond", "(I)V"⟩
abbrev cX6_takeTurns : ByteArray := prog_8_method_13_code
def yX6_takeTurns : MethodName := ⟨RX6, "takeTurns", "(III)V"⟩
abbrev cX6_worstAnswer : ByteArray := prog_8_method_14_code
def yX6_worstAnswer : MethodName := ⟨RX6, "worstAnswer", "(III)I"⟩
abbrev cX6_draw : ByteArray := prog_8_method_15_code
def yX6_draw : MethodName := ⟨RX6, "draw", "(IIIII)I"⟩
def RX7 : String := "RoadsThanked$Shelf"
def TX7 : u_T := fun k => match k with
  | 0 => ("RoadsThanked$Shelf", "sort", "I", false)
  | 1 => ("RoadsThanked$Shelf", "size", "I", false)
  | 2 => ("RoadsThanked$Shelf", "stone", "I", false)
  | _ => ("RoadsThanked$Shelf", "elements", "[J", true)
def tyX7 : Nat → FieldType := fun k => match k with
  | 0 => .int
  | 1 => .int
  | 2 => .int
  | _ => .array .long
abbrev wsX70 : List Cond := u_ws RX7 TX7 4
theorem nmX7 : ∀ a, a < 4 → ∀ b, b < 4 → a ≠ b → (TX7 a).2.1 ≠ (TX7 b).2.1 := by decide +kernel
theorem tyX7_ok : ∀ k, k < 4 → parseFieldDescriptor (TX7 k).2.2.1 = some (tyX7 k) := by decide +kernel
abbrev cX7_init : ByteArray := prog_9_method_1_code
def yX7_init : MethodName := ⟨RX7, "<init>", "()V"⟩
abbrev cX7_isRow : ByteArray := prog_9_method_2_code
def yX7_isRow : MethodName := ⟨RX7, "isRow", "()Z"⟩
abbrev cX7_isRowOf : ByteArray := prog_9_method_3_code
def yX7_isRowOf : MethodName := ⟨RX7, "isRowOf", "(I)Z"⟩
abbrev cX7_isEmpty : ByteArray := prog_9_method_4_code
def yX7_isEmpty : MethodName := ⟨RX7, "isEmpty", "()Z"⟩
abbrev cX7_holdStone : ByteArray := prog_9_method_5_code
def yX7_holdStone : MethodName := ⟨RX7, "holdStone", "(I)V"⟩
abbrev cX7_holdRow : ByteArray := prog_9_method_6_code
def yX7_holdRow : MethodName := ⟨RX7, "holdRow", "(II)V"⟩
abbrev cX7_refusalOf : ByteArray := prog_9_method_7_code
def yX7_refusalOf : MethodName := ⟨RX7, "refusalOf", "(I)I"⟩
abbrev cX7_refusalAt : ByteArray := prog_9_method_8_code
def yX7_refusalAt : MethodName := ⟨RX7, "refusalAt", "(I)I"⟩
abbrev cX7_hasSpan : ByteArray := prog_9_method_9_code
def yX7_hasSpan : MethodName := ⟨RX7, "hasSpan", "(II)Z"⟩
abbrev cX7_cut : ByteArray := prog_9_method_10_code
def yX7_cut : MethodName := ⟨RX7, "cut", "(J)J"⟩
def RX8 : String := "RoadsThanked$Stones"
def TX8 : u_T := fun k => match k with
  | 0 => ("RoadsThanked$Stones", "many", "I", false)
  | 1 => ("RoadsThanked$Stones", "kinds", "[I", true)
  | 2 => ("RoadsThanked$Stones", "notes", "[I", true)
  | 3 => ("RoadsThanked$Stones", "ran", "I", false)
  | 4 => ("RoadsThanked$Stones", "kind", "I", false)
  | _ => ("RoadsThanked$Stones", "number", "I", false)
def tyX8 : Nat → FieldType := fun k => match k with
  | 0 => .int
  | 1 => .array .int
  | 2 => .array .int
  | 3 => .int
  | 4 => .int
  | _ => .int
abbrev wsX80 : List Cond := u_ws RX8 TX8 6
theorem nmX8 : ∀ a, a < 6 → ∀ b, b < 6 → a ≠ b → (TX8 a).2.1 ≠ (TX8 b).2.1 := by decide +kernel
theorem tyX8_ok : ∀ k, k < 6 → parseFieldDescriptor (TX8 k).2.2.1 = some (tyX8 k) := by decide +kernel
abbrev cX8_init : ByteArray := prog_10_method_1_code
def yX8_init : MethodName := ⟨RX8, "<init>", "()V"⟩
abbrev cX8_add : ByteArray := prog_10_method_2_code
def yX8_add : MethodName := ⟨RX8, "add", "(I)I"⟩
abbrev cX8_isThere : ByteArray := prog_10_method_3_code
def yX8_isThere : MethodName := ⟨RX8, "isThere", "(I)Z"⟩
abbrev cX8_isUnder : ByteArray := prog_10_method_4_code
def yX8_isUnder : MethodName := ⟨RX8, "isUnder", "(II)Z"⟩
abbrev cX8_noted : ByteArray := prog_10_method_5_code
def yX8_noted : MethodName := ⟨RX8, "noted", "()I"⟩
abbrev cX8_perform : ByteArray := prog_10_method_6_code
def yX8_perform : MethodName := ⟨RX8, "perform", "(III)I"⟩
abbrev cX8_holderOf : ByteArray := prog_10_method_7_code
def yX8_holderOf : MethodName := ⟨RX8, "holderOf", "(II)I"⟩
abbrev cX8_note : ByteArray := prog_10_method_8_code
def yX8_note : MethodName := ⟨RX8, "note", "(I)V"⟩
abbrev cX8_run : ByteArray := prog_10_method_9_code
def yX8_run : MethodName := ⟨RX8, "run", "(IIII)I"⟩
def RX9 : String := "RoadsThanked$Thought"
def TX9 : u_T := fun k => match k with
  | 0 => ("RoadsThanked$Thought", "net", "LRoadsThanked$Net;", true)
  | 1 => ("RoadsThanked$Thought", "text", "LRoadsThanked$Law;", true)
  | 2 => ("RoadsThanked$Thought", "moods", "[I", true)
  | 3 => ("RoadsThanked$Thought", "known", "[I", true)
  | 4 => ("RoadsThanked$Thought", "knownFor", "[I", true)
  | 5 => ("RoadsThanked$Thought", "thoughts", "I", false)
  | 6 => ("RoadsThanked$Thought", "neighbours", "[I", true)
  | 7 => ("RoadsThanked$Thought", "hours", "[I", true)
  | 8 => ("RoadsThanked$Thought", "distance", "[I", true)
  | _ => ("RoadsThanked$Thought", "without", "I", false)
def tyX9 : Nat → FieldType := fun k => match k with
  | 0 => .object "RoadsThanked$Net"
  | 1 => .object "RoadsThanked$Law"
  | 2 => .array .int
  | 3 => .array .int
  | 4 => .array .int
  | 5 => .int
  | 6 => .array .int
  | 7 => .array .int
  | 8 => .array .int
  | _ => .int
abbrev wsX90 : List Cond := u_ws RX9 TX9 10
theorem nmX9 : ∀ a, a < 10 → ∀ b, b < 10 → a ≠ b → (TX9 a).2.1 ≠ (TX9 b).2.1 := by decide +kernel
theorem tyX9_ok : ∀ k, k < 10 → parseFieldDescriptor (TX9 k).2.2.1 = some (tyX9 k) := by decide +kernel
abbrev cX9_init : ByteArray := prog_11_method_1_code
def yX9_init : MethodName := ⟨RX9, "<init>", "(LRoadsThanked$Net;LRoadsThanked$Law;)V"⟩
abbrev cX9_begin : ByteArray := prog_11_method_2_code
def yX9_begin : MethodName := ⟨RX9, "begin", "(I)V"⟩
abbrev cX9_moodsAsNow : ByteArray := prog_11_method_3_code
def yX9_moodsAsNow : MethodName := ⟨RX9, "moodsAsNow", "()V"⟩
abbrev cX9_isOpen : ByteArray := prog_11_method_4_code
def yX9_isOpen : MethodName := ⟨RX9, "isOpen", "(I)Z"⟩
abbrev cX9_takes : ByteArray := prog_11_method_5_code
def yX9_takes : MethodName := ⟨RX9, "takes", "(I)I"⟩
abbrev cX9_workOut : ByteArray := prog_11_method_6_code
def yX9_workOut : MethodName := ⟨RX9, "workOut", "(III)I"⟩
abbrev cX9_countNeighbours : ByteArray := prog_11_method_7_code
def yX9_countNeighbours : MethodName := ⟨RX9, "countNeighbours", "(I)I"⟩
abbrev cX9_takesInAll : ByteArray := prog_11_method_8_code
def yX9_takesInAll : MethodName := ⟨RX9, "takesInAll", "()I"⟩
abbrev cX9_measureFrom : ByteArray := prog_11_method_9_code
def yX9_measureFrom : MethodName := ⟨RX9, "measureFrom", "(I)V"⟩
abbrev cX9_comeNearer : ByteArray := prog_11_method_10_code
def yX9_comeNearer : MethodName := ⟨RX9, "comeNearer", "()Z"⟩
abbrev cX9_tellWay : ByteArray := prog_11_method_11_code
def yX9_tellWay : MethodName := ⟨RX9, "tellWay", "(III)I"⟩
abbrev cX9_nextRoad : ByteArray := prog_11_method_12_code
def yX9_nextRoad : MethodName := ⟨RX9, "nextRoad", "(I)I"⟩
abbrev cX9_placesWithin : ByteArray := prog_11_method_13_code
def yX9_placesWithin : MethodName := ⟨RX9, "placesWithin", "(I)I"⟩
abbrev cX9_farthest : ByteArray := prog_11_method_14_code
def yX9_farthest : MethodName := ⟨RX9, "farthest", "()I"⟩
abbrev cX9_firstNotSo : ByteArray := prog_11_method_15_code
def yX9_firstNotSo : MethodName := ⟨RX9, "firstNotSo", "(LRoadsThanked$Shelf;)I"⟩
def RX10 : String := "RoadsThanked$Walk"
def TX10 : u_T := fun k => match k with
  | 0 => ("RoadsThanked$Walk", "net", "LRoadsThanked$Net;", true)
  | 1 => ("RoadsThanked$Walk", "thought", "LRoadsThanked$Thought;", true)
  | 2 => ("RoadsThanked$Walk", "taken", "I", false)
  | 3 => ("RoadsThanked$Walk", "place", "I", false)
  | _ => ("RoadsThanked$Walk", "stuck", "I", false)
def tyX10 : Nat → FieldType := fun k => match k with
  | 0 => .object "RoadsThanked$Net"
  | 1 => .object "RoadsThanked$Thought"
  | 2 => .int
  | 3 => .int
  | _ => .int
abbrev wsX100 : List Cond := u_ws RX10 TX10 5
theorem nmX10 : ∀ a, a < 5 → ∀ b, b < 5 → a ≠ b → (TX10 a).2.1 ≠ (TX10 b).2.1 := by decide +kernel
theorem tyX10_ok : ∀ k, k < 5 → parseFieldDescriptor (TX10 k).2.2.1 = some (tyX10 k) := by decide +kernel
abbrev cX10_init : ByteArray := prog_12_method_1_code
def yX10_init : MethodName := ⟨RX10, "<init>", "(LRoadsThanked$Net;LRoadsThanked$Thought;)V"⟩
abbrev cX10_go : ByteArray := prog_12_method_2_code
def yX10_go : MethodName := ⟨RX10, "go", "(LRoadsThanked$Shelf;I)V"⟩
def RX11 : String := "RoadsThanked"
def TX11 : u_T := fun k => match k with
  | 0 => ("RoadsThanked", "net", "LRoadsThanked$Net;", true)
  | 1 => ("RoadsThanked", "tape", "LRoadsThanked$Reader;", true)
  | 2 => ("RoadsThanked", "text", "LRoadsThanked$Law;", true)
  | 3 => ("RoadsThanked", "thought", "LRoadsThanked$Thought;", true)
  | 4 => ("RoadsThanked", "search", "LRoadsThanked$Search;", true)
  | 5 => ("RoadsThanked", "rounds", "LRoadsThanked$Rounds;", true)
  | 6 => ("RoadsThanked", "walk", "LRoadsThanked$Walk;", true)
  | 7 => ("RoadsThanked", "history", "LRoadsThanked$History;", true)
  | 8 => ("RoadsThanked", "kept", "LRoadsThanked$Image;", true)
  | 9 => ("RoadsThanked", "stones", "LRoadsThanked$Stones;", true)
  | _ => ("RoadsThanked", "shelves", "[LRoadsThanked$Shelf;", true)
def tyX11 : Nat → FieldType := fun k => match k with
  | 0 => .object "RoadsThanked$Net"
  | 1 => .object "RoadsThanked$Reader"
  | 2 => .object "RoadsThanked$Law"
  | 3 => .object "RoadsThanked$Thought"
  | 4 => .object "RoadsThanked$Search"
  | 5 => .object "RoadsThanked$Rounds"
  | 6 => .object "RoadsThanked$Walk"
  | 7 => .object "RoadsThanked$History"
  | 8 => .object "RoadsThanked$Image"
  | 9 => .object "RoadsThanked$Stones"
  | _ => .array (.object "RoadsThanked$Shelf")
abbrev wsX110 : List Cond := u_ws RX11 TX11 11
theorem nmX11 : ∀ a, a < 11 → ∀ b, b < 11 → a ≠ b → (TX11 a).2.1 ≠ (TX11 b).2.1 := by decide +kernel
theorem tyX11_ok : ∀ k, k < 11 → parseFieldDescriptor (TX11 k).2.2.1 = some (tyX11 k) := by decide +kernel
abbrev cX11_init : ByteArray := prog_1_method_1_code
def yX11_init : MethodName := ⟨RX11, "<init>", "()V"⟩
abbrev cX11_road : ByteArray := prog_1_method_2_code
def yX11_road : MethodName := ⟨RX11, "road", "(II)I"⟩
abbrev cX11_roads : ByteArray := prog_1_method_3_code
def yX11_roads : MethodName := ⟨RX11, "roads", "(III)I"⟩
abbrev cX11_addRoadFrom : ByteArray := prog_1_method_4_code
def yX11_addRoadFrom : MethodName := ⟨RX11, "addRoadFrom", "(LRoadsThanked$Shelf;I)Z"⟩
abbrev cX11_traveller : ByteArray := prog_1_method_5_code
def yX11_traveller : MethodName := ⟨RX11, "traveller", "(I)I"⟩
abbrev cX11_mend : ByteArray := prog_1_method_6_code
def yX11_mend : MethodName := ⟨RX11, "mend", "(III)I"⟩
abbrev cX11_of : ByteArray := prog_1_method_7_code
def yX11_of : MethodName := ⟨RX11, "of", "(II)I"⟩
abbrev cX11_feed : ByteArray := prog_1_method_8_code
def yX11_feed : MethodName := ⟨RX11, "feed", "(I)I"⟩
abbrev cX11_law : ByteArray := prog_1_method_9_code
def yX11_law : MethodName := ⟨RX11, "law", "()I"⟩
abbrev cX11_hours : ByteArray := prog_1_method_10_code
def yX11_hours : MethodName := ⟨RX11, "hours", "(I)I"⟩
abbrev cX11_way : ByteArray := prog_1_method_11_code
def yX11_way : MethodName := ⟨RX11, "way", "(II)I"⟩
abbrev cX11_reach : ByteArray := prog_1_method_12_code
def yX11_reach : MethodName := ⟨RX11, "reach", "(III)I"⟩
abbrev cX11_needed : ByteArray := prog_1_method_13_code
def yX11_needed : MethodName := ⟨RX11, "needed", "(I)I"⟩
abbrev cX11_longer : ByteArray := prog_1_method_14_code
def yX11_longer : MethodName := ⟨RX11, "longer", "(II)I"⟩
abbrev cX11_trip : ByteArray := prog_1_method_15_code
def yX11_trip : MethodName := ⟨RX11, "trip", "(III)I"⟩
abbrev cX11_isOfTrip : ByteArray := prog_1_method_16_code
def yX11_isOfTrip : MethodName := ⟨RX11, "isOfTrip", "(I)Z"⟩
abbrev cX11_round : ByteArray := prog_1_method_17_code
def yX11_round : MethodName := ⟨RX11, "round", "(III)I"⟩
abbrev cX11_least : ByteArray := prog_1_method_18_code
def yX11_least : MethodName := ⟨RX11, "least", "(III)I"⟩
abbrev cX11_best : ByteArray := prog_1_method_19_code
def yX11_best : MethodName := ⟨RX11, "best", "(I)I"⟩
abbrev cX11_anger : ByteArray := prog_1_method_20_code
def yX11_anger : MethodName := ⟨RX11, "anger", "(I)I"⟩
abbrev cX11_peace : ByteArray := prog_1_method_21_code
def yX11_peace : MethodName := ⟨RX11, "peace", "(I)I"⟩
abbrev cX11_ring : ByteArray := prog_1_method_22_code
def yX11_ring : MethodName := ⟨RX11, "ring", "(II)I"⟩
abbrev cX11_judge : ByteArray := prog_1_method_23_code
def yX11_judge : MethodName := ⟨RX11, "judge", "(I)I"⟩
abbrev cX11_sunday : ByteArray := prog_1_method_24_code
def yX11_sunday : MethodName := ⟨RX11, "sunday", "(II)I"⟩
abbrev cX11_byTurns : ByteArray := prog_1_method_25_code
def yX11_byTurns : MethodName := ⟨RX11, "byTurns", "(III)I"⟩
abbrev cX11_drawn : ByteArray := prog_1_method_26_code
def yX11_drawn : MethodName := ⟨RX11, "drawn", "(III)I"⟩
abbrev cX11_goes : ByteArray := prog_1_method_27_code
def yX11_goes : MethodName := ⟨RX11, "goes", "(III)I"⟩
abbrev cX11_night : ByteArray := prog_1_method_28_code
def yX11_night : MethodName := ⟨RX11, "night", "()I"⟩
abbrev cX11_led : ByteArray := prog_1_method_29_code
def yX11_led : MethodName := ⟨RX11, "led", "(I)I"⟩
abbrev cX11_image : ByteArray := prog_1_method_30_code
def yX11_image : MethodName := ⟨RX11, "image", "()I"⟩
abbrev cX11_back : ByteArray := prog_1_method_31_code
def yX11_back : MethodName := ⟨RX11, "back", "()I"⟩
abbrev cX11_undo : ByteArray := prog_1_method_32_code
def yX11_undo : MethodName := ⟨RX11, "undo", "()I"⟩
abbrev cX11_redo : ByteArray := prog_1_method_33_code
def yX11_redo : MethodName := ⟨RX11, "redo", "()I"⟩
abbrev cX11_body : ByteArray := prog_1_method_34_code
def yX11_body : MethodName := ⟨RX11, "body", "(I)I"⟩
abbrev cX11_act : ByteArray := prog_1_method_35_code
def yX11_act : MethodName := ⟨RX11, "act", "(III)I"⟩
abbrev cX11_trace : ByteArray := prog_1_method_36_code
def yX11_trace : MethodName := ⟨RX11, "trace", "(I)I"⟩
abbrev cX11_keep : ByteArray := prog_1_method_37_code
def yX11_keep : MethodName := ⟨RX11, "keep", "(II)I"⟩
abbrev cX11_row : ByteArray := prog_1_method_38_code
def yX11_row : MethodName := ⟨RX11, "row", "(III)I"⟩
abbrev cX11_put : ByteArray := prog_1_method_39_code
def yX11_put : MethodName := ⟨RX11, "put", "(IIJ)I"⟩
abbrev cX11_element : ByteArray := prog_1_method_40_code
def yX11_element : MethodName := ⟨RX11, "element", "(II)J"⟩
abbrev cX11_shift : ByteArray := prog_1_method_41_code
def yX11_shift : MethodName := ⟨RX11, "shift", "(IIIII)I"⟩
abbrev cX11_taken : ByteArray := prog_1_method_42_code
def yX11_taken : MethodName := ⟨RX11, "taken", "(II)I"⟩
abbrev cX11_count : ByteArray := prog_1_method_43_code
def yX11_count : MethodName := ⟨RX11, "count", "(I)I"⟩
abbrev cX11_isPlace : ByteArray := prog_1_method_44_code
def yX11_isPlace : MethodName := ⟨RX11, "isPlace", "(I)Z"⟩
abbrev cX11_isPair : ByteArray := prog_1_method_45_code
def yX11_isPair : MethodName := ⟨RX11, "isPair", "(I)Z"⟩
abbrev cX11_isLength : ByteArray := prog_1_method_46_code
def yX11_isLength : MethodName := ⟨RX11, "isLength", "(I)Z"⟩
abbrev cX11_isTime : ByteArray := prog_1_method_47_code
def yX11_isTime : MethodName := ⟨RX11, "isTime", "(I)Z"⟩
abbrev cX11_isShelf : ByteArray := prog_1_method_48_code
def yX11_isShelf : MethodName := ⟨RX11, "isShelf", "(I)Z"⟩
abbrev cX11_isKind : ByteArray := prog_1_method_49_code
def yX11_isKind : MethodName := ⟨RX11, "isKind", "(I)Z"⟩
def RX12 : String := "RoadsThankedModel"
def TX12 : u_T := fun k => match k with
  | 0 => ("RoadsThankedModel", "many", "I", false)
  | 1 => ("RoadsThankedModel", "one", "[I", true)
  | 2 => ("RoadsThankedModel", "other", "[I", true)
  | 3 => ("RoadsThankedModel", "ways", "[I", true)
  | 4 => ("RoadsThankedModel", "people", "I", false)
  | 5 => ("RoadsThankedModel", "place", "[I", true)
  | 6 => ("RoadsThankedModel", "manners", "[I", true)
  | 7 => ("RoadsThankedModel", "taped", "I", false)
  | 8 => ("RoadsThankedModel", "tape", "[I", true)
  | 9 => ("RoadsThankedModel", "isTold", "Z", false)
  | 10 => ("RoadsThankedModel", "lines", "I", false)
  | 11 => ("RoadsThankedModel", "asks", "[I", true)
  | 12 => ("RoadsThankedModel", "says", "[I", true)
  | 13 => ("RoadsThankedModel", "ends", "[I", true)
  | 14 => ("RoadsThankedModel", "code", "[I", true)
  | 15 => ("RoadsThankedModel", "at", "I", false)
  | 16 => ("RoadsThankedModel", "open", "I", false)
  | 17 => ("RoadsThankedModel", "coded", "I", false)
  | 18 => ("RoadsThankedModel", "newLines", "I", false)
  | 19 => ("RoadsThankedModel", "newAsks", "[I", true)
  | 20 => ("RoadsThankedModel", "newSays", "[I", true)
  | 21 => ("RoadsThankedModel", "newEnds", "[I", true)
  | 22 => ("RoadsThankedModel", "newCode", "[I", true)
  | 23 => ("RoadsThankedModel", "stack", "[I", true)
  | 24 => ("RoadsThankedModel", "names", "[I", true)
  | 25 => ("RoadsThankedModel", "led", "[I", true)
  | 26 => ("RoadsThankedModel", "imaged", "Z", false)
  | 27 => ("RoadsThankedModel", "oldMany", "I", false)
  | 28 => ("RoadsThankedModel", "oldPeople", "I", false)
  | 29 => ("RoadsThankedModel", "oldMoods", "[I", true)
  | 30 => ("RoadsThankedModel", "oldPlaces", "[I", true)
  | 31 => ("RoadsThankedModel", "oldLed", "[I", true)
  | 32 => ("RoadsThankedModel", "changes", "I", false)
  | 33 => ("RoadsThankedModel", "done", "I", false)
  | 34 => ("RoadsThankedModel", "changed", "[I", true)
  | 35 => ("RoadsThankedModel", "bodies", "I", false)
  | 36 => ("RoadsThankedModel", "kind", "[I", true)
  | 37 => ("RoadsThankedModel", "traced", "I", false)
  | 38 => ("RoadsThankedModel", "traces", "[I", true)
  | 39 => ("RoadsThankedModel", "holding", "[I", true)
  | 40 => ("RoadsThankedModel", "rowLength", "[I", true)
  | 41 => ("RoadsThankedModel", "rowOf", "[J", true)
  | 42 => ("RoadsThankedModel", "now", "[I", true)
  | 43 => ("RoadsThankedModel", "far", "[I", true)
  | 44 => ("RoadsThankedModel", "was", "[I", true)
  | 45 => ("RoadsThankedModel", "before", "[I", true)
  | 46 => ("RoadsThankedModel", "tripHours", "I", false)
  | 47 => ("RoadsThankedModel", "tripPlace", "I", false)
  | 48 => ("RoadsThankedModel", "tripStop", "I", false)
  | 49 => ("RoadsThankedModel", "between", "[I", true)
  | 50 => ("RoadsThankedModel", "stops", "I", false)
  | 51 => ("RoadsThankedModel", "whom", "[I", true)
  | 52 => ("RoadsThankedModel", "tried", "[I", true)
  | 53 => ("RoadsThankedModel", "best", "[I", true)
  | 54 => ("RoadsThankedModel", "bestHours", "I", false)
  | _ => ("RoadsThankedModel", "given", "[I", true)
def tyX12 : Nat → FieldType := fun k => match k with
  | 0 => .int
  | 1 => .array .int
  | 2 => .array .int
  | 3 => .array .int
  | 4 => .int
  | 5 => .array .int
  | 6 => .array .int
  | 7 => .int
  | 8 => .array .int
  | 9 => .boolean
  | 10 => .int
  | 11 => .array .int
  | 12 => .array .int
  | 13 => .array .int
  | 14 => .array .int
  | 15 => .int
  | 16 => .int
  | 17 => .int
  | 18 => .int
  | 19 => .array .int
  | 20 => .array .int
  | 21 => .array .int
  | 22 => .array .int
  | 23 => .array .int
  | 24 => .array .int
  | 25 => .array .int
  | 26 => .boolean
  | 27 => .int
  | 28 => .int
  | 29 => .array .int
  | 30 => .array .int
  | 31 => .array .int
  | 32 => .int
  | 33 => .int
  | 34 => .array .int
  | 35 => .int
  | 36 => .array .int
  | 37 => .int
  | 38 => .array .int
  | 39 => .array .int
  | 40 => .array .int
  | 41 => .array .long
  | 42 => .array .int
  | 43 => .array .int
  | 44 => .array .int
  | 45 => .array .int
  | 46 => .int
  | 47 => .int
  | 48 => .int
  | 49 => .array .int
  | 50 => .int
  | 51 => .array .int
  | 52 => .array .int
  | 53 => .array .int
  | 54 => .int
  | _ => .array .int
abbrev wsX120 : List Cond := u_ws RX12 TX12 56
theorem nmX12 : ∀ a, a < 56 → ∀ b, b < 56 → a ≠ b → (TX12 a).2.1 ≠ (TX12 b).2.1 := by decide +kernel
theorem tyX12_ok : ∀ k, k < 56 → parseFieldDescriptor (TX12 k).2.2.1 = some (tyX12 k) := by decide +kernel
abbrev cX12_init : ByteArray := prog_14_method_1_code
def yX12_init : MethodName := ⟨RX12, "<init>", "()V"⟩
abbrev cX12_within : ByteArray := prog_14_method_2_code
def yX12_within : MethodName := ⟨RX12, "within", "(III)Z"⟩
abbrev cX12_isRoad : ByteArray := prog_14_method_3_code
def yX12_isRoad : MethodName := ⟨RX12, "isRoad", "(I)Z"⟩
abbrev cX12_isOne : ByteArray := prog_14_method_4_code
def yX12_isOne : MethodName := ⟨RX12, "isOne", "(I)Z"⟩
abbrev cX12_isPlace : ByteArray := prog_14_method_5_code
def yX12_isPlace : MethodName := ⟨RX12, "isPlace", "(I)Z"⟩
abbrev cX12_areTwo : ByteArray := prog_14_method_6_code
def yX12_areTwo : MethodName := ⟨RX12, "areTwo", "(I)Z"⟩
abbrev cX12_isShelf : ByteArray := prog_14_method_7_code
def yX12_isShelf : MethodName := ⟨RX12, "isShelf", "(I)Z"⟩
abbrev cX12_newRoad : ByteArray := prog_14_method_8_code
def yX12_newRoad : MethodName := ⟨RX12, "newRoad", "(III)I"⟩
abbrev cX12_road : ByteArray := prog_14_method_9_code
def yX12_road : MethodName := ⟨RX12, "road", "(II)I"⟩
abbrev cX12_roads : ByteArray := prog_14_method_10_code
def yX12_roads : MethodName := ⟨RX12, "roads", "(III)I"⟩
abbrev cX12_toldAt : ByteArray := prog_14_method_11_code
def yX12_toldAt : MethodName := ⟨RX12, "toldAt", "(II)I"⟩
abbrev cX12_traveller : ByteArray := prog_14_method_12_code
def yX12_traveller : MethodName := ⟨RX12, "traveller", "(I)I"⟩
abbrev cX12_isOf : ByteArray := prog_14_method_13_code
def yX12_isOf : MethodName := ⟨RX12, "isOf", "(II)Z"⟩
abbrev cX12_isFit : ByteArray := prog_14_method_14_code
def yX12_isFit : MethodName := ⟨RX12, "isFit", "(III)Z"⟩
abbrev cX12_get : ByteArray := prog_14_method_15_code
def yX12_get : MethodName := ⟨RX12, "get", "(II)I"⟩
abbrev cX12_becomes : ByteArray := prog_14_method_16_code
def yX12_becomes : MethodName := ⟨RX12, "becomes", "(III)V"⟩
abbrev cX12_mend : ByteArray := prog_14_method_17_code
def yX12_mend : MethodName := ⟨RX12, "mend", "(III)I"⟩
abbrev cX12_of : ByteArray := prog_14_method_18_code
def yX12_of : MethodName := ⟨RX12, "of", "(II)I"⟩
abbrev cX12_undo : ByteArray := prog_14_method_19_code
def yX12_undo : MethodName := ⟨RX12, "undo", "()I"⟩
abbrev cX12_redo : ByteArray := prog_14_method_20_code
def yX12_redo : MethodName := ⟨RX12, "redo", "()I"⟩
abbrev cX12_feed : ByteArray := prog_14_method_21_code
def yX12_feed : MethodName := ⟨RX12, "feed", "(I)I"⟩
abbrev cX12_sign : ByteArray := prog_14_method_22_code
def yX12_sign : MethodName := ⟨RX12, "sign", "()I"⟩
abbrev cX12_is : ByteArray := prog_14_method_23_code
def yX12_is : MethodName := ⟨RX12, "is", "(I)Z"⟩
abbrev cX12_codes : ByteArray := prog_14_method_24_code
def yX12_codes : MethodName := ⟨RX12, "codes", "(I)Z"⟩
abbrev cX12_isDigit : ByteArray := prog_14_method_25_code
def yX12_isDigit : MethodName := ⟨RX12, "isDigit", "()Z"⟩
abbrev cX12_nameOf : ByteArray := prog_14_method_26_code
def yX12_nameOf : MethodName := ⟨RX12, "nameOf", "(I)I"⟩
abbrev cX12_isO : ByteArray := prog_14_method_27_code
def yX12_isO : MethodName := ⟨RX12, "isO", "()Z"⟩
abbrev cX12_isP : ByteArray := prog_14_method_28_code
def yX12_isP : MethodName := ⟨RX12, "isP", "()Z"⟩
abbrev cX12_isS : ByteArray := prog_14_method_29_code
def yX12_isS : MethodName := ⟨RX12, "isS", "()Z"⟩
abbrev cX12_isB : ByteArray := prog_14_method_30_code
def yX12_isB : MethodName := ⟨RX12, "isB", "()Z"⟩
abbrev cX12_isA : ByteArray := prog_14_method_31_code
def yX12_isA : MethodName := ⟨RX12, "isA", "()Z"⟩
abbrev cX12_isE : ByteArray := prog_14_method_32_code
def yX12_isE : MethodName := ⟨RX12, "isE", "()Z"⟩
abbrev cX12_isLine : ByteArray := prog_14_method_33_code
def yX12_isLine : MethodName := ⟨RX12, "isLine", "()Z"⟩
abbrev cX12_law : ByteArray := prog_14_method_34_code
def yX12_law : MethodName := ⟨RX12, "law", "()I"⟩
abbrev cX12_both : ByteArray := prog_14_method_35_code
def yX12_both : MethodName := ⟨RX12, "both", "(III)I"⟩
abbrev cX12_worked : ByteArray := prog_14_method_36_code
def yX12_worked : MethodName := ⟨RX12, "worked", "(II)I"⟩
abbrev cX12_isPloughed : ByteArray := prog_14_method_37_code
def yX12_isPloughed : MethodName := ⟨RX12, "isPloughed", "(I)Z"⟩
abbrev cX12_endsAt : ByteArray := prog_14_method_38_code
def yX12_endsAt : MethodName := ⟨RX12, "endsAt", "(II)Z"⟩
abbrev cX12_knots : ByteArray := prog_14_method_39_code
def yX12_knots : MethodName := ⟨RX12, "knots", "(I)I"⟩
abbrev cX12_byLaw : ByteArray := prog_14_method_40_code
def yX12_byLaw : MethodName := ⟨RX12, "byLaw", "(I)I"⟩
abbrev cX12_hoursOf : ByteArray := prog_14_method_41_code
def yX12_hoursOf : MethodName := ⟨RX12, "hoursOf", "(I)I"⟩
abbrev cX12_allHours : ByteArray := prog_14_method_42_code
def yX12_allHours : MethodName := ⟨RX12, "allHours", "()I"⟩
abbrev cX12_hours : ByteArray := prog_14_method_43_code
def yX12_hours : MethodName := ⟨RX12, "hours", "(I)I"⟩
abbrev cX12_held : ByteArray := prog_14_method_44_code
def yX12_held : MethodName := ⟨RX12, "held", "(I)I"⟩
abbrev cX12_word : ByteArray := prog_14_method_45_code
def yX12_word : MethodName := ⟨RX12, "word", "(II)V"⟩
abbrev cX12_keeps : ByteArray := prog_14_method_46_code
def yX12_keeps : MethodName := ⟨RX12, "keeps", "([I)V"⟩
abbrev cX12_again : ByteArray := prog_14_method_47_code
def yX12_again : MethodName := ⟨RX12, "again", "([I)V"⟩
abbrev cX12_looks : ByteArray := prog_14_method_48_code
def yX12_looks : MethodName := ⟨RX12, "looks", "(I)V"⟩
abbrev cX12_wayOf : ByteArray := prog_14_method_49_code
def yX12_wayOf : MethodName := ⟨RX12, "wayOf", "(I)I"⟩
abbrev cX12_along : ByteArray := prog_14_method_50_code
def yX12_along : MethodName := ⟨RX12, "along", "(II)I"⟩
abbrev cX12_way : ByteArray := prog_14_method_51_code
def yX12_way : MethodName := ⟨RX12, "way", "(II)I"⟩
abbrev cX12_reach : ByteArray := prog_14_method_52_code
def yX12_reach : MethodName := ⟨RX12, "reach", "(III)I"⟩
abbrev cX12_wayWithout : ByteArray := prog_14_method_53_code
def yX12_wayWithout : MethodName := ⟨RX12, "wayWithout", "(II)I"⟩
abbrev cX12_needed : ByteArray := prog_14_method_54_code
def yX12_needed : MethodName := ⟨RX12, "needed", "(I)I"⟩
abbrev cX12_longer : ByteArray := prog_14_method_55_code
def yX12_longer : MethodName := ⟨RX12, "longer", "(II)I"⟩
abbrev cX12_goesAll : ByteArray := prog_14_method_56_code
def yX12_goesAll : MethodName := ⟨RX12, "goesAll", "(II)V"⟩
abbrev cX12_trip : ByteArray := prog_14_method_57_code
def yX12_trip : MethodName := ⟨RX12, "trip", "(III)I"⟩
abbrev cX12_rounds : ByteArray := prog_14_method_58_code
def yX12_rounds : MethodName := ⟨RX12, "rounds", "(IIIII)V"⟩
abbrev cX12_round : ByteArray := prog_14_method_59_code
def yX12_round : MethodName := ⟨RX12, "round", "(III)I"⟩
abbrev cX12_isEnough : ByteArray := prog_14_method_60_code
def yX12_isEnough : MethodName := ⟨RX12, "isEnough", "(IIIII)Z"⟩
abbrev cX12_least : ByteArray := prog_14_method_61_code
def yX12_least : MethodName := ⟨RX12, "least", "(III)I"⟩
abbrev cX12_best : ByteArray := prog_14_method_62_code
def yX12_best : MethodName := ⟨RX12, "best", "(I)I"⟩
abbrev cX12_anger : ByteArray := prog_14_method_63_code
def yX12_anger : MethodName := ⟨RX12, "anger", "(I)I"⟩
abbrev cX12_isPeace : ByteArray := prog_14_method_64_code
def yX12_isPeace : MethodName := ⟨RX12, "isPeace", "(I)Z"⟩
abbrev cX12_peace : ByteArray := prog_14_method_65_code
def yX12_peace : MethodName := ⟨RX12, "peace", "(I)I"⟩
abbrev cX12_ring : ByteArray := prog_14_method_66_code
def yX12_ring : MethodName := ⟨RX12, "ring", "(II)I"⟩
abbrev cX12_noSunday : ByteArray := prog_14_method_67_code
def yX12_noSunday : MethodName := ⟨RX12, "noSunday", "(I)I"⟩
abbrev cX12_unlike : ByteArray := prog_14_method_68_code
def yX12_unlike : MethodName := ⟨RX12, "unlike", "(I)I"⟩
abbrev cX12_judge : ByteArray := prog_14_method_69_code
def yX12_judge : MethodName := ⟨RX12, "judge", "(I)I"⟩
abbrev cX12_deed : ByteArray := prog_14_method_70_code
def yX12_deed : MethodName := ⟨RX12, "deed", "(I)V"⟩
abbrev cX12_isDeed : ByteArray := prog_14_method_71_code
def yX12_isDeed : MethodName := ⟨RX12, "isDeed", "(I)Z"⟩
abbrev cX12_byOne : ByteArray := prog_14_method_72_code
def yX12_byOne : MethodName := ⟨RX12, "byOne", "(II)I"⟩
abbrev cX12_byTwo : ByteArray := prog_14_method_73_code
def yX12_byTwo : MethodName := ⟨RX12, "byTwo", "(I)I"⟩
abbrev cX12_sunday : ByteArray := prog_14_method_74_code
def yX12_sunday : MethodName := ⟨RX12, "sunday", "(II)I"⟩
abbrev cX12_wanted : ByteArray := prog_14_method_75_code
def yX12_wanted : MethodName := ⟨RX12, "wanted", "(I)I"⟩
abbrev cX12_answered : ByteArray := prog_14_method_76_code
def yX12_answered : MethodName := ⟨RX12, "answered", "(I)I"⟩
abbrev cX12_byTurns : ByteArray := prog_14_method_77_code
def yX12_byTurns : MethodName := ⟨RX12, "byTurns", "(III)I"⟩
abbrev cX12_drawn : ByteArray := prog_14_method_78_code
def yX12_drawn : MethodName := ⟨RX12, "drawn", "(III)I"⟩
abbrev cX12_goes : ByteArray := prog_14_method_79_code
def yX12_goes : MethodName := ⟨RX12, "goes", "(III)I"⟩
abbrev cX12_night : ByteArray := prog_14_method_80_code
def yX12_night : MethodName := ⟨RX12, "night", "()I"⟩
abbrev cX12_led : ByteArray := prog_14_method_81_code
def yX12_led : MethodName := ⟨RX12, "led", "(I)I"⟩
abbrev cX12_image : ByteArray := prog_14_method_82_code
def yX12_image : MethodName := ⟨RX12, "image", "()I"⟩
abbrev cX12_back : ByteArray := prog_14_method_83_code
def yX12_back : MethodName := ⟨RX12, "back", "()I"⟩
abbrev cX12_above : ByteArray := prog_14_method_84_code
def yX12_above : MethodName := ⟨RX12, "above", "(I)I"⟩
abbrev cX12_ran : ByteArray := prog_14_method_85_code
def yX12_ran : MethodName := ⟨RX12, "ran", "(I)V"⟩
abbrev cX12_leadsBy : ByteArray := prog_14_method_86_code
def yX12_leadsBy : MethodName := ⟨RX12, "leadsBy", "(III)I"⟩
abbrev cX12_thanksBy : ByteArray := prog_14_method_87_code
def yX12_thanksBy : MethodName := ⟨RX12, "thanksBy", "(III)I"⟩
abbrev cX12_sulksBy : ByteArray := prog_14_method_88_code
def yX12_sulksBy : MethodName := ⟨RX12, "sulksBy", "(III)I"⟩
abbrev cX12_tells : ByteArray := prog_14_method_89_code
def yX12_tells : MethodName := ⟨RX12, "tells", "(III)I"⟩
abbrev cX12_body : ByteArray := prog_14_method_90_code
def yX12_body : MethodName := ⟨RX12, "body", "(I)I"⟩
abbrev cX12_act : ByteArray := prog_14_method_91_code
def yX12_act : MethodName := ⟨RX12, "act", "(III)I"⟩
abbrev cX12_trace : ByteArray := prog_14_method_92_code
def yX12_trace : MethodName := ⟨RX12, "trace", "(I)I"⟩
abbrev cX12_keep : ByteArray := prog_14_method_93_code
def yX12_keep : MethodName := ⟨RX12, "keep", "(II)I"⟩
abbrev cX12_row : ByteArray := prog_14_method_94_code
def yX12_row : MethodName := ⟨RX12, "row", "(III)I"⟩
abbrev cX12_isRow : ByteArray := prog_14_method_95_code
def yX12_isRow : MethodName := ⟨RX12, "isRow", "(I)Z"⟩
abbrev cX12_kept : ByteArray := prog_14_method_96_code
def yX12_kept : MethodName := ⟨RX12, "kept", "(IJ)J"⟩
abbrev cX12_put : ByteArray := prog_14_method_97_code
def yX12_put : MethodName := ⟨RX12, "put", "(IIJ)I"⟩
abbrev cX12_element : ByteArray := prog_14_method_98_code
def yX12_element : MethodName := ⟨RX12, "element", "(II)J"⟩
abbrev cX12_shift : ByteArray := prog_14_method_99_code
def yX12_shift : MethodName := ⟨RX12, "shift", "(IIIII)I"⟩
abbrev cX12_taken : ByteArray := prog_14_method_100_code
def yX12_taken : MethodName := ⟨RX12, "taken", "(II)I"⟩
abbrev cX12_count : ByteArray := prog_14_method_101_code
def yX12_count : MethodName := ⟨RX12, "count", "(I)I"⟩
def RJ6 : String := "java/lang/Integer"
def TJ6 : u_T := fun k => match k with
  | _ => ("", "", "", false)
def tyJ6 : Nat → FieldType := fun k => match k with
  | _ => .int
abbrev wsJ60 : List Cond := u_ws RJ6 TJ6 0
theorem nmJ6 : ∀ a, a < 0 → ∀ b, b < 0 → a ≠ b → (TJ6 a).2.1 ≠ (TJ6 b).2.1 := by decide +kernel
theorem tyJ6_ok : ∀ k, k < 0 → parseFieldDescriptor (TJ6 k).2.2.1 = some (tyJ6 k) := by decide +kernel
abbrev cJ6_bitCount_0f7a4 : ByteArray := prog_15_method_49_code
def yJ6_bitCount_0f7a4 : MethodName := ⟨RJ6, "bitCount", "(I)I"⟩
def RJ9 : String := "java/lang/Math"
def TJ9 : u_T := fun k => match k with
  | _ => ("", "", "", false)
def tyJ9 : Nat → FieldType := fun k => match k with
  | _ => .int
abbrev wsJ90 : List Cond := u_ws RJ9 TJ9 0
theorem nmJ9 : ∀ a, a < 0 → ∀ b, b < 0 → a ≠ b → (TJ9 a).2.1 ≠ (TJ9 b).2.1 := by decide +kernel
theorem tyJ9_ok : ∀ k, k < 0 → parseFieldDescriptor (TJ9 k).2.2.1 = some (tyJ9 k) := by decide +kernel
abbrev cJ9_max_7cf53 : ByteArray := prog_16_method_65_code
def yJ9_max_7cf53 : MethodName := ⟨RJ9, "max", "(II)I"⟩
abbrev cJ9_min_7cf53 : ByteArray := prog_16_method_69_code
def yJ9_min_7cf53 : MethodName := ⟨RJ9, "min", "(II)I"⟩
def RJ10 : String := "java/lang/System"
def TJ10 : u_T := fun k => match k with
  | _ => ("", "", "", false)
def tyJ10 : Nat → FieldType := fun k => match k with
  | _ => .int
abbrev wsJ100 : List Cond := u_ws RJ10 TJ10 0
theorem nmJ10 : ∀ a, a < 0 → ∀ b, b < 0 → a ≠ b → (TJ10 a).2.1 ≠ (TJ10 b).2.1 := by decide +kernel
theorem tyJ10_ok : ∀ k, k < 0 → parseFieldDescriptor (TJ10 k).2.2.1 = some (tyJ10 k) := by decide +kernel
def RJ7 : String := "java/util/Arrays"
def TJ7 : u_T := fun k => match k with
  | _ => ("", "", "", false)
def tyJ7 : Nat → FieldType := fun k => match k with
  | _ => .int
abbrev wsJ70 : List Cond := u_ws RJ7 TJ7 0
theorem nmJ7 : ∀ a, a < 0 → ∀ b, b < 0 → a ≠ b → (TJ7 a).2.1 ≠ (TJ7 b).2.1 := by decide +kernel
theorem tyJ7_ok : ∀ k, k < 0 → parseFieldDescriptor (TJ7 k).2.2.1 = some (tyJ7 k) := by decide +kernel
abbrev cJ7_fill_d0a16 : ByteArray := prog_18_method_101_code
def yJ7_fill_d0a16 : MethodName := ⟨RJ7, "fill", "([JJ)V"⟩
abbrev cJ7_fill_53178 : ByteArray := prog_18_method_103_code
def yJ7_fill_53178 : MethodName := ⟨RJ7, "fill", "([II)V"⟩
def RL : String := "RoadsThankedLaw"
abbrev cL_law : ByteArray := code
def yL_law : MethodName := ⟨RL, "law", "([I)Z"⟩
abbrev vwCl : List vw_C := [(RX0, TX0, 7), (RX1, TX1, 7), (RX2, TX2, 4), (RX3, TX3, 11), (RX4, TX4, 6), (RX5, TX5, 6), (RX6, TX6, 6), (RX7, TX7, 4), (RX8, TX8, 6), (RX9, TX9, 10), (RX10, TX10, 5), (RX11, TX11, 11), (RX12, TX12, 56)]
