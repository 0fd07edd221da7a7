section
-- ===== PART A: goes FIRST, ahead of the names: the tables' words, and 'selects' of the private methods out of them =====
/-- a private method of a class that the tables say can be made, by its rows of tables_1 -/
def lw_okq (q : MethodName × Nat) : Prop := (q.1.cls ≠ "java/lang/invoke/MethodHandle" ∧ q.1.cls ≠ "java/lang/invoke/VarHandle") ∧ Cond.instantiable q.1.cls q.2 ∈ tables_1 ∧ Cond.privateMethod q.1 ∈ tables_1 ∧ Cond.instanceMethod q.1 ∈ tables_1
theorem lw_p0 : lw_okq (⟨"RoadsThanked", "addRoadFrom", "(LRoadsThanked$Shelf;I)Z"⟩, 11) := ⟨⟨by decide +kernel, by decide +kernel⟩, List.mem_of_getElem? (i := 19) (by decide +kernel), List.mem_of_getElem? (i := 446) (by decide +kernel), List.mem_of_getElem? (i := 447) (by decide +kernel)⟩
theorem lw_p1 : lw_okq (⟨"RoadsThanked$History", "forgetOldest", "()V"⟩, 7) := ⟨⟨by decide +kernel, by decide +kernel⟩, List.mem_of_getElem? (i := 259) (by decide +kernel), List.mem_of_getElem? (i := 489) (by decide +kernel), List.mem_of_getElem? (i := 490) (by decide +kernel)⟩
theorem lw_p2 : lw_okq (⟨"RoadsThanked$Reader", "readLine", "()V"⟩, 6) := ⟨⟨by decide +kernel, by decide +kernel⟩, List.mem_of_getElem? (i := 89) (by decide +kernel), List.mem_of_getElem? (i := 516) (by decide +kernel), List.mem_of_getElem? (i := 517) (by decide +kernel)⟩
theorem lw_p3 : lw_okq (⟨"RoadsThanked$Reader", "readJoined", "(II)V"⟩, 6) := ⟨⟨by decide +kernel, by decide +kernel⟩, List.mem_of_getElem? (i := 89) (by decide +kernel), List.mem_of_getElem? (i := 520) (by decide +kernel), List.mem_of_getElem? (i := 521) (by decide +kernel)⟩
theorem lw_p4 : lw_okq (⟨"RoadsThanked$Reader", "readPart", "(II)V"⟩, 6) := ⟨⟨by decide +kernel, by decide +kernel⟩, List.mem_of_getElem? (i := 89) (by decide +kernel), List.mem_of_getElem? (i := 524) (by decide +kernel), List.mem_of_getElem? (i := 525) (by decide +kernel)⟩
theorem lw_p5 : lw_okq (⟨"RoadsThanked$Reader", "readOperand", "(I)V"⟩, 6) := ⟨⟨by decide +kernel, by decide +kernel⟩, List.mem_of_getElem? (i := 89) (by decide +kernel), List.mem_of_getElem? (i := 528) (by decide +kernel), List.mem_of_getElem? (i := 529) (by decide +kernel)⟩
theorem lw_p6 : lw_okq (⟨"RoadsThanked$Reader", "next", "()I"⟩, 6) := ⟨⟨by decide +kernel, by decide +kernel⟩, List.mem_of_getElem? (i := 89) (by decide +kernel), List.mem_of_getElem? (i := 532) (by decide +kernel), List.mem_of_getElem? (i := 533) (by decide +kernel)⟩
theorem lw_p7 : lw_okq (⟨"RoadsThanked$Reader", "readNumber", "()V"⟩, 6) := ⟨⟨by decide +kernel, by decide +kernel⟩, List.mem_of_getElem? (i := 89) (by decide +kernel), List.mem_of_getElem? (i := 539) (by decide +kernel), List.mem_of_getElem? (i := 540) (by decide +kernel)⟩
theorem lw_p8 : lw_okq (⟨"RoadsThanked$Reader", "addStep", "(I)V"⟩, 6) := ⟨⟨by decide +kernel, by decide +kernel⟩, List.mem_of_getElem? (i := 89) (by decide +kernel), List.mem_of_getElem? (i := 543) (by decide +kernel), List.mem_of_getElem? (i := 544) (by decide +kernel)⟩
theorem lw_p9 : lw_okq (⟨"RoadsThanked$Reader", "blame", "()V"⟩, 6) := ⟨⟨by decide +kernel, by decide +kernel⟩, List.mem_of_getElem? (i := 89) (by decide +kernel), List.mem_of_getElem? (i := 550) (by decide +kernel), List.mem_of_getElem? (i := 551) (by decide +kernel)⟩
theorem lw_p10 : lw_okq (⟨"RoadsThanked$Reader", "readClosing", "()V"⟩, 6) := ⟨⟨by decide +kernel, by decide +kernel⟩, List.mem_of_getElem? (i := 89) (by decide +kernel), List.mem_of_getElem? (i := 554) (by decide +kernel), List.mem_of_getElem? (i := 555) (by decide +kernel)⟩
theorem lw_p11 : lw_okq (⟨"RoadsThanked$Thought", "workOut", "(III)I"⟩, 10) := ⟨⟨by decide +kernel, by decide +kernel⟩, List.mem_of_getElem? (i := 136) (by decide +kernel), List.mem_of_getElem? (i := 594) (by decide +kernel), List.mem_of_getElem? (i := 595) (by decide +kernel)⟩
theorem lw_p12 : lw_okq (⟨"RoadsThanked$Thought", "countNeighbours", "(I)I"⟩, 10) := ⟨⟨by decide +kernel, by decide +kernel⟩, List.mem_of_getElem? (i := 136) (by decide +kernel), List.mem_of_getElem? (i := 598) (by decide +kernel), List.mem_of_getElem? (i := 599) (by decide +kernel)⟩
theorem lw_p13 : lw_okq (⟨"RoadsThanked$Thought", "isOpen", "(I)Z"⟩, 10) := ⟨⟨by decide +kernel, by decide +kernel⟩, List.mem_of_getElem? (i := 136) (by decide +kernel), List.mem_of_getElem? (i := 602) (by decide +kernel), List.mem_of_getElem? (i := 603) (by decide +kernel)⟩
theorem lw_p14 : lw_okq (⟨"RoadsThanked$Law", "push", "(I)V"⟩, 4) := ⟨⟨by decide +kernel, by decide +kernel⟩, List.mem_of_getElem? (i := 117) (by decide +kernel), List.mem_of_getElem? (i := 615) (by decide +kernel), List.mem_of_getElem? (i := 616) (by decide +kernel)⟩
theorem lw_p15 : lw_okq (⟨"RoadsThanked$Law", "pop", "()I"⟩, 4) := ⟨⟨by decide +kernel, by decide +kernel⟩, List.mem_of_getElem? (i := 117) (by decide +kernel), List.mem_of_getElem? (i := 619) (by decide +kernel), List.mem_of_getElem? (i := 620) (by decide +kernel)⟩
def lw_privs_1 : List (MethodName × Nat) := [(⟨"RoadsThanked", "addRoadFrom", "(LRoadsThanked$Shelf;I)Z"⟩, 11), (⟨"RoadsThanked$History", "forgetOldest", "()V"⟩, 7), (⟨"RoadsThanked$Reader", "readLine", "()V"⟩, 6), (⟨"RoadsThanked$Reader", "readJoined", "(II)V"⟩, 6), (⟨"RoadsThanked$Reader", "readPart", "(II)V"⟩, 6), (⟨"RoadsThanked$Reader", "readOperand", "(I)V"⟩, 6), (⟨"RoadsThanked$Reader", "next", "()I"⟩, 6), (⟨"RoadsThanked$Reader", "readNumber", "()V"⟩, 6), (⟨"RoadsThanked$Reader", "addStep", "(I)V"⟩, 6), (⟨"RoadsThanked$Reader", "blame", "()V"⟩, 6), (⟨"RoadsThanked$Reader", "readClosing", "()V"⟩, 6), (⟨"RoadsThanked$Thought", "workOut", "(III)I"⟩, 10), (⟨"RoadsThanked$Thought", "countNeighbours", "(I)I"⟩, 10), (⟨"RoadsThanked$Thought", "isOpen", "(I)Z"⟩, 10), (⟨"RoadsThanked$Law", "push", "(I)V"⟩, 4), (⟨"RoadsThanked$Law", "pop", "()I"⟩, 4)]
theorem lw_r1 : ∀ q ∈ lw_privs_1, lw_okq q := List.forall_mem_cons.mpr ⟨lw_p0, List.forall_mem_cons.mpr ⟨lw_p1, List.forall_mem_cons.mpr ⟨lw_p2, List.forall_mem_cons.mpr ⟨lw_p3, List.forall_mem_cons.mpr ⟨lw_p4, List.forall_mem_cons.mpr ⟨lw_p5, List.forall_mem_cons.mpr ⟨lw_p6, List.forall_mem_cons.mpr ⟨lw_p7, List.forall_mem_cons.mpr ⟨lw_p8, List.forall_mem_cons.mpr ⟨lw_p9, List.forall_mem_cons.mpr ⟨lw_p10, List.forall_mem_cons.mpr ⟨lw_p11, List.forall_mem_cons.mpr ⟨lw_p12, List.forall_mem_cons.mpr ⟨lw_p13, List.forall_mem_cons.mpr ⟨lw_p14, List.forall_mem_cons.mpr ⟨lw_p15, fun _ h => absurd h List.not_mem_nil⟩⟩⟩⟩⟩⟩⟩⟩⟩⟩⟩⟩⟩⟩⟩⟩
theorem lw_p16 : lw_okq (⟨"RoadsThanked$Law", "endOfLine", "(I)I"⟩, 4) := ⟨⟨by decide +kernel, by decide +kernel⟩, List.mem_of_getElem? (i := 117) (by decide +kernel), List.mem_of_getElem? (i := 623) (by decide +kernel), List.mem_of_getElem? (i := 624) (by decide +kernel)⟩
theorem lw_p17 : lw_okq (⟨"RoadsThanked$Thought", "comeNearer", "()Z"⟩, 10) := ⟨⟨by decide +kernel, by decide +kernel⟩, List.mem_of_getElem? (i := 136) (by decide +kernel), List.mem_of_getElem? (i := 647) (by decide +kernel), List.mem_of_getElem? (i := 648) (by decide +kernel)⟩
theorem lw_p18 : lw_okq (⟨"RoadsThanked$Thought", "nextRoad", "(I)I"⟩, 10) := ⟨⟨by decide +kernel, by decide +kernel⟩, List.mem_of_getElem? (i := 136) (by decide +kernel), List.mem_of_getElem? (i := 651) (by decide +kernel), List.mem_of_getElem? (i := 652) (by decide +kernel)⟩
theorem lw_p19 : lw_okq (⟨"RoadsThanked", "isOfTrip", "(I)Z"⟩, 11) := ⟨⟨by decide +kernel, by decide +kernel⟩, List.mem_of_getElem? (i := 19) (by decide +kernel), List.mem_of_getElem? (i := 693) (by decide +kernel), List.mem_of_getElem? (i := 694) (by decide +kernel)⟩
theorem lw_p20 : lw_okq (⟨"RoadsThanked$Rounds", "goOn", "(IIII)V"⟩, 6) := ⟨⟨by decide +kernel, by decide +kernel⟩, List.mem_of_getElem? (i := 207) (by decide +kernel), List.mem_of_getElem? (i := 728) (by decide +kernel), List.mem_of_getElem? (i := 729) (by decide +kernel)⟩
theorem lw_p21 : lw_okq (⟨"RoadsThanked$Rounds", "finish", "(I)V"⟩, 6) := ⟨⟨by decide +kernel, by decide +kernel⟩, List.mem_of_getElem? (i := 207) (by decide +kernel), List.mem_of_getElem? (i := 732) (by decide +kernel), List.mem_of_getElem? (i := 733) (by decide +kernel)⟩
theorem lw_p22 : lw_okq (⟨"RoadsThanked$Search", "findThanks", "(IIII)Z"⟩, 6) := ⟨⟨by decide +kernel, by decide +kernel⟩, List.mem_of_getElem? (i := 179) (by decide +kernel), List.mem_of_getElem? (i := 746) (by decide +kernel), List.mem_of_getElem? (i := 747) (by decide +kernel)⟩
theorem lw_p23 : lw_okq (⟨"RoadsThanked$Search", "nextPicks", "(I)Z"⟩, 6) := ⟨⟨by decide +kernel, by decide +kernel⟩, List.mem_of_getElem? (i := 179) (by decide +kernel), List.mem_of_getElem? (i := 754) (by decide +kernel), List.mem_of_getElem? (i := 755) (by decide +kernel)⟩
theorem lw_p24 : lw_okq (⟨"RoadsThanked$Net", "isPeace", "(I)Z"⟩, 11) := ⟨⟨by decide +kernel, by decide +kernel⟩, List.mem_of_getElem? (i := 27) (by decide +kernel), List.mem_of_getElem? (i := 785) (by decide +kernel), List.mem_of_getElem? (i := 786) (by decide +kernel)⟩
theorem lw_p25 : lw_okq (⟨"RoadsThanked$Search", "turns", "()I"⟩, 6) := ⟨⟨by decide +kernel, by decide +kernel⟩, List.mem_of_getElem? (i := 179) (by decide +kernel), List.mem_of_getElem? (i := 823) (by decide +kernel), List.mem_of_getElem? (i := 824) (by decide +kernel)⟩
theorem lw_p26 : lw_okq (⟨"RoadsThanked$Search", "performFirst", "(I)V"⟩, 6) := ⟨⟨by decide +kernel, by decide +kernel⟩, List.mem_of_getElem? (i := 179) (by decide +kernel), List.mem_of_getElem? (i := 827) (by decide +kernel), List.mem_of_getElem? (i := 828) (by decide +kernel)⟩
theorem lw_p27 : lw_okq (⟨"RoadsThanked$Search", "perform", "(I)V"⟩, 6) := ⟨⟨by decide +kernel, by decide +kernel⟩, List.mem_of_getElem? (i := 179) (by decide +kernel), List.mem_of_getElem? (i := 831) (by decide +kernel), List.mem_of_getElem? (i := 832) (by decide +kernel)⟩
theorem lw_p28 : lw_okq (⟨"RoadsThanked$Search", "performSecond", "(I)V"⟩, 6) := ⟨⟨by decide +kernel, by decide +kernel⟩, List.mem_of_getElem? (i := 179) (by decide +kernel), List.mem_of_getElem? (i := 836) (by decide +kernel), List.mem_of_getElem? (i := 837) (by decide +kernel)⟩
theorem lw_p29 : lw_okq (⟨"RoadsThanked$Search", "worstAnswer", "(III)I"⟩, 6) := ⟨⟨by decide +kernel, by decide +kernel⟩, List.mem_of_getElem? (i := 179) (by decide +kernel), List.mem_of_getElem? (i := 856) (by decide +kernel), List.mem_of_getElem? (i := 857) (by decide +kernel)⟩
theorem lw_p30 : lw_okq (⟨"RoadsThanked$Stones", "run", "(IIII)I"⟩, 6) := ⟨⟨by decide +kernel, by decide +kernel⟩, List.mem_of_getElem? (i := 318) (by decide +kernel), List.mem_of_getElem? (i := 946) (by decide +kernel), List.mem_of_getElem? (i := 947) (by decide +kernel)⟩
theorem lw_p31 : lw_okq (⟨"RoadsThanked$Stones", "note", "(I)V"⟩, 6) := ⟨⟨by decide +kernel, by decide +kernel⟩, List.mem_of_getElem? (i := 318) (by decide +kernel), List.mem_of_getElem? (i := 958) (by decide +kernel), List.mem_of_getElem? (i := 959) (by decide +kernel)⟩
def lw_privs_2 : List (MethodName × Nat) := [(⟨"RoadsThanked$Law", "endOfLine", "(I)I"⟩, 4), (⟨"RoadsThanked$Thought", "comeNearer", "()Z"⟩, 10), (⟨"RoadsThanked$Thought", "nextRoad", "(I)I"⟩, 10), (⟨"RoadsThanked", "isOfTrip", "(I)Z"⟩, 11), (⟨"RoadsThanked$Rounds", "goOn", "(IIII)V"⟩, 6), (⟨"RoadsThanked$Rounds", "finish", "(I)V"⟩, 6), (⟨"RoadsThanked$Search", "findThanks", "(IIII)Z"⟩, 6), (⟨"RoadsThanked$Search", "nextPicks", "(I)Z"⟩, 6), (⟨"RoadsThanked$Net", "isPeace", "(I)Z"⟩, 11), (⟨"RoadsThanked$Search", "turns", "()I"⟩, 6), (⟨"RoadsThanked$Search", "performFirst", "(I)V"⟩, 6), (⟨"RoadsThanked$Search", "perform", "(I)V"⟩, 6), (⟨"RoadsThanked$Search", "performSecond", "(I)V"⟩, 6), (⟨"RoadsThanked$Search", "worstAnswer", "(III)I"⟩, 6), (⟨"RoadsThanked$Stones", "run", "(IIII)I"⟩, 6), (⟨"RoadsThanked$Stones", "note", "(I)V"⟩, 6)]
theorem lw_r2 : ∀ q ∈ lw_privs_2, lw_okq q := List.forall_mem_cons.mpr ⟨lw_p16, List.forall_mem_cons.mpr ⟨lw_p17, List.forall_mem_cons.mpr ⟨lw_p18, List.forall_mem_cons.mpr ⟨lw_p19, List.forall_mem_cons.mpr ⟨lw_p20, List.forall_mem_cons.mpr ⟨lw_p21, List.forall_mem_cons.mpr ⟨lw_p22, List.forall_mem_cons.mpr ⟨lw_p23, List.forall_mem_cons.mpr ⟨lw_p24, List.forall_mem_cons.mpr ⟨lw_p25, List.forall_mem_cons.mpr ⟨lw_p26, List.forall_mem_cons.mpr ⟨lw_p27, List.forall_mem_cons.mpr ⟨lw_p28, List.forall_mem_cons.mpr ⟨lw_p29, List.forall_mem_cons.mpr ⟨lw_p30, List.forall_mem_cons.mpr ⟨lw_p31, fun _ h => absurd h List.not_mem_nil⟩⟩⟩⟩⟩⟩⟩⟩⟩⟩⟩⟩⟩⟩⟩⟩
theorem lw_p32 : lw_okq (⟨"RoadsThankedModel", "newRoad", "(III)I"⟩, 56) := ⟨⟨by decide +kernel, by decide +kernel⟩, List.mem_of_getElem? (i := 1029) (by decide +kernel), List.mem_of_getElem? (i := 1217) (by decide +kernel), List.mem_of_getElem? (i := 1218) (by decide +kernel)⟩
theorem lw_p33 : lw_okq (⟨"RoadsThankedModel", "toldAt", "(II)I"⟩, 56) := ⟨⟨by decide +kernel, by decide +kernel⟩, List.mem_of_getElem? (i := 1029) (by decide +kernel), List.mem_of_getElem? (i := 1229) (by decide +kernel), List.mem_of_getElem? (i := 1230) (by decide +kernel)⟩
theorem lw_p34 : lw_okq (⟨"RoadsThankedModel", "isOf", "(II)Z"⟩, 56) := ⟨⟨by decide +kernel, by decide +kernel⟩, List.mem_of_getElem? (i := 1029) (by decide +kernel), List.mem_of_getElem? (i := 1241) (by decide +kernel), List.mem_of_getElem? (i := 1242) (by decide +kernel)⟩
theorem lw_p35 : lw_okq (⟨"RoadsThankedModel", "isRoad", "(I)Z"⟩, 56) := ⟨⟨by decide +kernel, by decide +kernel⟩, List.mem_of_getElem? (i := 1029) (by decide +kernel), List.mem_of_getElem? (i := 1245) (by decide +kernel), List.mem_of_getElem? (i := 1246) (by decide +kernel)⟩
theorem lw_p36 : lw_okq (⟨"RoadsThankedModel", "isOne", "(I)Z"⟩, 56) := ⟨⟨by decide +kernel, by decide +kernel⟩, List.mem_of_getElem? (i := 1029) (by decide +kernel), List.mem_of_getElem? (i := 1249) (by decide +kernel), List.mem_of_getElem? (i := 1250) (by decide +kernel)⟩
theorem lw_p37 : lw_okq (⟨"RoadsThankedModel", "isFit", "(III)Z"⟩, 56) := ⟨⟨by decide +kernel, by decide +kernel⟩, List.mem_of_getElem? (i := 1029) (by decide +kernel), List.mem_of_getElem? (i := 1253) (by decide +kernel), List.mem_of_getElem? (i := 1254) (by decide +kernel)⟩
theorem lw_p38 : lw_okq (⟨"RoadsThankedModel", "get", "(II)I"⟩, 56) := ⟨⟨by decide +kernel, by decide +kernel⟩, List.mem_of_getElem? (i := 1029) (by decide +kernel), List.mem_of_getElem? (i := 1258) (by decide +kernel), List.mem_of_getElem? (i := 1259) (by decide +kernel)⟩
theorem lw_p39 : lw_okq (⟨"RoadsThankedModel", "becomes", "(III)V"⟩, 56) := ⟨⟨by decide +kernel, by decide +kernel⟩, List.mem_of_getElem? (i := 1029) (by decide +kernel), List.mem_of_getElem? (i := 1262) (by decide +kernel), List.mem_of_getElem? (i := 1263) (by decide +kernel)⟩
theorem lw_p40 : lw_okq (⟨"RoadsThankedModel", "isLine", "()Z"⟩, 56) := ⟨⟨by decide +kernel, by decide +kernel⟩, List.mem_of_getElem? (i := 1029) (by decide +kernel), List.mem_of_getElem? (i := 1286) (by decide +kernel), List.mem_of_getElem? (i := 1287) (by decide +kernel)⟩
theorem lw_p41 : lw_okq (⟨"RoadsThankedModel", "isE", "()Z"⟩, 56) := ⟨⟨by decide +kernel, by decide +kernel⟩, List.mem_of_getElem? (i := 1029) (by decide +kernel), List.mem_of_getElem? (i := 1290) (by decide +kernel), List.mem_of_getElem? (i := 1291) (by decide +kernel)⟩
theorem lw_p42 : lw_okq (⟨"RoadsThankedModel", "isA", "()Z"⟩, 56) := ⟨⟨by decide +kernel, by decide +kernel⟩, List.mem_of_getElem? (i := 1029) (by decide +kernel), List.mem_of_getElem? (i := 1294) (by decide +kernel), List.mem_of_getElem? (i := 1295) (by decide +kernel)⟩
theorem lw_p43 : lw_okq (⟨"RoadsThankedModel", "isB", "()Z"⟩, 56) := ⟨⟨by decide +kernel, by decide +kernel⟩, List.mem_of_getElem? (i := 1029) (by decide +kernel), List.mem_of_getElem? (i := 1298) (by decide +kernel), List.mem_of_getElem? (i := 1299) (by decide +kernel)⟩
theorem lw_p44 : lw_okq (⟨"RoadsThankedModel", "isS", "()Z"⟩, 56) := ⟨⟨by decide +kernel, by decide +kernel⟩, List.mem_of_getElem? (i := 1029) (by decide +kernel), List.mem_of_getElem? (i := 1302) (by decide +kernel), List.mem_of_getElem? (i := 1303) (by decide +kernel)⟩
theorem lw_p45 : lw_okq (⟨"RoadsThankedModel", "isP", "()Z"⟩, 56) := ⟨⟨by decide +kernel, by decide +kernel⟩, List.mem_of_getElem? (i := 1029) (by decide +kernel), List.mem_of_getElem? (i := 1306) (by decide +kernel), List.mem_of_getElem? (i := 1307) (by decide +kernel)⟩
theorem lw_p46 : lw_okq (⟨"RoadsThankedModel", "isO", "()Z"⟩, 56) := ⟨⟨by decide +kernel, by decide +kernel⟩, List.mem_of_getElem? (i := 1029) (by decide +kernel), List.mem_of_getElem? (i := 1310) (by decide +kernel), List.mem_of_getElem? (i := 1311) (by decide +kernel)⟩
theorem lw_p47 : lw_okq (⟨"RoadsThankedModel", "isDigit", "()Z"⟩, 56) := ⟨⟨by decide +kernel, by decide +kernel⟩, List.mem_of_getElem? (i := 1029) (by decide +kernel), List.mem_of_getElem? (i := 1314) (by decide +kernel), List.mem_of_getElem? (i := 1315) (by decide +kernel)⟩
def lw_privs_3 : List (MethodName × Nat) := [(⟨"RoadsThankedModel", "newRoad", "(III)I"⟩, 56), (⟨"RoadsThankedModel", "toldAt", "(II)I"⟩, 56), (⟨"RoadsThankedModel", "isOf", "(II)Z"⟩, 56), (⟨"RoadsThankedModel", "isRoad", "(I)Z"⟩, 56), (⟨"RoadsThankedModel", "isOne", "(I)Z"⟩, 56), (⟨"RoadsThankedModel", "isFit", "(III)Z"⟩, 56), (⟨"RoadsThankedModel", "get", "(II)I"⟩, 56), (⟨"RoadsThankedModel", "becomes", "(III)V"⟩, 56), (⟨"RoadsThankedModel", "isLine", "()Z"⟩, 56), (⟨"RoadsThankedModel", "isE", "()Z"⟩, 56), (⟨"RoadsThankedModel", "isA", "()Z"⟩, 56), (⟨"RoadsThankedModel", "isB", "()Z"⟩, 56), (⟨"RoadsThankedModel", "isS", "()Z"⟩, 56), (⟨"RoadsThankedModel", "isP", "()Z"⟩, 56), (⟨"RoadsThankedModel", "isO", "()Z"⟩, 56), (⟨"RoadsThankedModel", "isDigit", "()Z"⟩, 56)]
theorem lw_r3 : ∀ q ∈ lw_privs_3, lw_okq q := List.forall_mem_cons.mpr ⟨lw_p32, List.forall_mem_cons.mpr ⟨lw_p33, List.forall_mem_cons.mpr ⟨lw_p34, List.forall_mem_cons.mpr ⟨lw_p35, List.forall_mem_cons.mpr ⟨lw_p36, List.forall_mem_cons.mpr ⟨lw_p37, List.forall_mem_cons.mpr ⟨lw_p38, List.forall_mem_cons.mpr ⟨lw_p39, List.forall_mem_cons.mpr ⟨lw_p40, List.forall_mem_cons.mpr ⟨lw_p41, List.forall_mem_cons.mpr ⟨lw_p42, List.forall_mem_cons.mpr ⟨lw_p43, List.forall_mem_cons.mpr ⟨lw_p44, List.forall_mem_cons.mpr ⟨lw_p45, List.forall_mem_cons.mpr ⟨lw_p46, List.forall_mem_cons.mpr ⟨lw_p47, fun _ h => absurd h List.not_mem_nil⟩⟩⟩⟩⟩⟩⟩⟩⟩⟩⟩⟩⟩⟩⟩⟩
theorem lw_p48 : lw_okq (⟨"RoadsThankedModel", "sign", "()I"⟩, 56) := ⟨⟨by decide +kernel, by decide +kernel⟩, List.mem_of_getElem? (i := 1029) (by decide +kernel), List.mem_of_getElem? (i := 1318) (by decide +kernel), List.mem_of_getElem? (i := 1319) (by decide +kernel)⟩
theorem lw_p49 : lw_okq (⟨"RoadsThankedModel", "codes", "(I)Z"⟩, 56) := ⟨⟨by decide +kernel, by decide +kernel⟩, List.mem_of_getElem? (i := 1029) (by decide +kernel), List.mem_of_getElem? (i := 1322) (by decide +kernel), List.mem_of_getElem? (i := 1323) (by decide +kernel)⟩
theorem lw_p50 : lw_okq (⟨"RoadsThankedModel", "is", "(I)Z"⟩, 56) := ⟨⟨by decide +kernel, by decide +kernel⟩, List.mem_of_getElem? (i := 1029) (by decide +kernel), List.mem_of_getElem? (i := 1329) (by decide +kernel), List.mem_of_getElem? (i := 1330) (by decide +kernel)⟩
theorem lw_p51 : lw_okq (⟨"RoadsThankedModel", "allHours", "()I"⟩, 56) := ⟨⟨by decide +kernel, by decide +kernel⟩, List.mem_of_getElem? (i := 1029) (by decide +kernel), List.mem_of_getElem? (i := 1337) (by decide +kernel), List.mem_of_getElem? (i := 1338) (by decide +kernel)⟩
theorem lw_p52 : lw_okq (⟨"RoadsThankedModel", "hoursOf", "(I)I"⟩, 56) := ⟨⟨by decide +kernel, by decide +kernel⟩, List.mem_of_getElem? (i := 1029) (by decide +kernel), List.mem_of_getElem? (i := 1341) (by decide +kernel), List.mem_of_getElem? (i := 1342) (by decide +kernel)⟩
theorem lw_p53 : lw_okq (⟨"RoadsThankedModel", "byLaw", "(I)I"⟩, 56) := ⟨⟨by decide +kernel, by decide +kernel⟩, List.mem_of_getElem? (i := 1029) (by decide +kernel), List.mem_of_getElem? (i := 1345) (by decide +kernel), List.mem_of_getElem? (i := 1346) (by decide +kernel)⟩
theorem lw_p54 : lw_okq (⟨"RoadsThankedModel", "knots", "(I)I"⟩, 56) := ⟨⟨by decide +kernel, by decide +kernel⟩, List.mem_of_getElem? (i := 1029) (by decide +kernel), List.mem_of_getElem? (i := 1350) (by decide +kernel), List.mem_of_getElem? (i := 1351) (by decide +kernel)⟩
theorem lw_p55 : lw_okq (⟨"RoadsThankedModel", "isPloughed", "(I)Z"⟩, 56) := ⟨⟨by decide +kernel, by decide +kernel⟩, List.mem_of_getElem? (i := 1029) (by decide +kernel), List.mem_of_getElem? (i := 1354) (by decide +kernel), List.mem_of_getElem? (i := 1355) (by decide +kernel)⟩
theorem lw_p56 : lw_okq (⟨"RoadsThankedModel", "endsAt", "(II)Z"⟩, 56) := ⟨⟨by decide +kernel, by decide +kernel⟩, List.mem_of_getElem? (i := 1029) (by decide +kernel), List.mem_of_getElem? (i := 1358) (by decide +kernel), List.mem_of_getElem? (i := 1359) (by decide +kernel)⟩
theorem lw_p57 : lw_okq (⟨"RoadsThankedModel", "worked", "(II)I"⟩, 56) := ⟨⟨by decide +kernel, by decide +kernel⟩, List.mem_of_getElem? (i := 1029) (by decide +kernel), List.mem_of_getElem? (i := 1362) (by decide +kernel), List.mem_of_getElem? (i := 1363) (by decide +kernel)⟩
theorem lw_p58 : lw_okq (⟨"RoadsThankedModel", "wayOf", "(I)I"⟩, 56) := ⟨⟨by decide +kernel, by decide +kernel⟩, List.mem_of_getElem? (i := 1029) (by decide +kernel), List.mem_of_getElem? (i := 1374) (by decide +kernel), List.mem_of_getElem? (i := 1375) (by decide +kernel)⟩
theorem lw_p59 : lw_okq (⟨"RoadsThankedModel", "looks", "(I)V"⟩, 56) := ⟨⟨by decide +kernel, by decide +kernel⟩, List.mem_of_getElem? (i := 1029) (by decide +kernel), List.mem_of_getElem? (i := 1378) (by decide +kernel), List.mem_of_getElem? (i := 1379) (by decide +kernel)⟩
theorem lw_p60 : lw_okq (⟨"RoadsThankedModel", "along", "(II)I"⟩, 56) := ⟨⟨by decide +kernel, by decide +kernel⟩, List.mem_of_getElem? (i := 1029) (by decide +kernel), List.mem_of_getElem? (i := 1382) (by decide +kernel), List.mem_of_getElem? (i := 1383) (by decide +kernel)⟩
theorem lw_p61 : lw_okq (⟨"RoadsThankedModel", "wayWithout", "(II)I"⟩, 56) := ⟨⟨by decide +kernel, by decide +kernel⟩, List.mem_of_getElem? (i := 1029) (by decide +kernel), List.mem_of_getElem? (i := 1394) (by decide +kernel), List.mem_of_getElem? (i := 1395) (by decide +kernel)⟩
theorem lw_p62 : lw_okq (⟨"RoadsThankedModel", "keeps", "([I)V"⟩, 56) := ⟨⟨by decide +kernel, by decide +kernel⟩, List.mem_of_getElem? (i := 1029) (by decide +kernel), List.mem_of_getElem? (i := 1406) (by decide +kernel), List.mem_of_getElem? (i := 1407) (by decide +kernel)⟩
theorem lw_p63 : lw_okq (⟨"RoadsThankedModel", "goesAll", "(II)V"⟩, 56) := ⟨⟨by decide +kernel, by decide +kernel⟩, List.mem_of_getElem? (i := 1029) (by decide +kernel), List.mem_of_getElem? (i := 1410) (by decide +kernel), List.mem_of_getElem? (i := 1411) (by decide +kernel)⟩
def lw_privs_4 : List (MethodName × Nat) := [(⟨"RoadsThankedModel", "sign", "()I"⟩, 56), (⟨"RoadsThankedModel", "codes", "(I)Z"⟩, 56), (⟨"RoadsThankedModel", "is", "(I)Z"⟩, 56), (⟨"RoadsThankedModel", "allHours", "()I"⟩, 56), (⟨"RoadsThankedModel", "hoursOf", "(I)I"⟩, 56), (⟨"RoadsThankedModel", "byLaw", "(I)I"⟩, 56), (⟨"RoadsThankedModel", "knots", "(I)I"⟩, 56), (⟨"RoadsThankedModel", "isPloughed", "(I)Z"⟩, 56), (⟨"RoadsThankedModel", "endsAt", "(II)Z"⟩, 56), (⟨"RoadsThankedModel", "worked", "(II)I"⟩, 56), (⟨"RoadsThankedModel", "wayOf", "(I)I"⟩, 56), (⟨"RoadsThankedModel", "looks", "(I)V"⟩, 56), (⟨"RoadsThankedModel", "along", "(II)I"⟩, 56), (⟨"RoadsThankedModel", "wayWithout", "(II)I"⟩, 56), (⟨"RoadsThankedModel", "keeps", "([I)V"⟩, 56), (⟨"RoadsThankedModel", "goesAll", "(II)V"⟩, 56)]
theorem lw_r4 : ∀ q ∈ lw_privs_4, lw_okq q := List.forall_mem_cons.mpr ⟨lw_p48, List.forall_mem_cons.mpr ⟨lw_p49, List.forall_mem_cons.mpr ⟨lw_p50, List.forall_mem_cons.mpr ⟨lw_p51, List.forall_mem_cons.mpr ⟨lw_p52, List.forall_mem_cons.mpr ⟨lw_p53, List.forall_mem_cons.mpr ⟨lw_p54, List.forall_mem_cons.mpr ⟨lw_p55, List.forall_mem_cons.mpr ⟨lw_p56, List.forall_mem_cons.mpr ⟨lw_p57, List.forall_mem_cons.mpr ⟨lw_p58, List.forall_mem_cons.mpr ⟨lw_p59, List.forall_mem_cons.mpr ⟨lw_p60, List.forall_mem_cons.mpr ⟨lw_p61, List.forall_mem_cons.mpr ⟨lw_p62, List.forall_mem_cons.mpr ⟨lw_p63, fun _ h => absurd h List.not_mem_nil⟩⟩⟩⟩⟩⟩⟩⟩⟩⟩⟩⟩⟩⟩⟩⟩
theorem lw_p64 : lw_okq (⟨"RoadsThankedModel", "word", "(II)V"⟩, 56) := ⟨⟨by decide +kernel, by decide +kernel⟩, List.mem_of_getElem? (i := 1029) (by decide +kernel), List.mem_of_getElem? (i := 1414) (by decide +kernel), List.mem_of_getElem? (i := 1415) (by decide +kernel)⟩
theorem lw_p65 : lw_okq (⟨"RoadsThankedModel", "again", "([I)V"⟩, 56) := ⟨⟨by decide +kernel, by decide +kernel⟩, List.mem_of_getElem? (i := 1029) (by decide +kernel), List.mem_of_getElem? (i := 1421) (by decide +kernel), List.mem_of_getElem? (i := 1422) (by decide +kernel)⟩
theorem lw_p66 : lw_okq (⟨"RoadsThankedModel", "rounds", "(IIIII)V"⟩, 56) := ⟨⟨by decide +kernel, by decide +kernel⟩, List.mem_of_getElem? (i := 1029) (by decide +kernel), List.mem_of_getElem? (i := 1429) (by decide +kernel), List.mem_of_getElem? (i := 1430) (by decide +kernel)⟩
theorem lw_p67 : lw_okq (⟨"RoadsThankedModel", "isEnough", "(IIIII)Z"⟩, 56) := ⟨⟨by decide +kernel, by decide +kernel⟩, List.mem_of_getElem? (i := 1029) (by decide +kernel), List.mem_of_getElem? (i := 1437) (by decide +kernel), List.mem_of_getElem? (i := 1438) (by decide +kernel)⟩
theorem lw_p68 : lw_okq (⟨"RoadsThankedModel", "isPeace", "(I)Z"⟩, 56) := ⟨⟨by decide +kernel, by decide +kernel⟩, List.mem_of_getElem? (i := 1029) (by decide +kernel), List.mem_of_getElem? (i := 1454) (by decide +kernel), List.mem_of_getElem? (i := 1455) (by decide +kernel)⟩
theorem lw_p69 : lw_okq (⟨"RoadsThankedModel", "noSunday", "(I)I"⟩, 56) := ⟨⟨by decide +kernel, by decide +kernel⟩, List.mem_of_getElem? (i := 1029) (by decide +kernel), List.mem_of_getElem? (i := 1466) (by decide +kernel), List.mem_of_getElem? (i := 1467) (by decide +kernel)⟩
theorem lw_p70 : lw_okq (⟨"RoadsThankedModel", "unlike", "(I)I"⟩, 56) := ⟨⟨by decide +kernel, by decide +kernel⟩, List.mem_of_getElem? (i := 1029) (by decide +kernel), List.mem_of_getElem? (i := 1470) (by decide +kernel), List.mem_of_getElem? (i := 1471) (by decide +kernel)⟩
theorem lw_p71 : lw_okq (⟨"RoadsThankedModel", "byTwo", "(I)I"⟩, 56) := ⟨⟨by decide +kernel, by decide +kernel⟩, List.mem_of_getElem? (i := 1029) (by decide +kernel), List.mem_of_getElem? (i := 1478) (by decide +kernel), List.mem_of_getElem? (i := 1479) (by decide +kernel)⟩
theorem lw_p72 : lw_okq (⟨"RoadsThankedModel", "isDeed", "(I)Z"⟩, 56) := ⟨⟨by decide +kernel, by decide +kernel⟩, List.mem_of_getElem? (i := 1029) (by decide +kernel), List.mem_of_getElem? (i := 1482) (by decide +kernel), List.mem_of_getElem? (i := 1483) (by decide +kernel)⟩
theorem lw_p73 : lw_okq (⟨"RoadsThankedModel", "deed", "(I)V"⟩, 56) := ⟨⟨by decide +kernel, by decide +kernel⟩, List.mem_of_getElem? (i := 1029) (by decide +kernel), List.mem_of_getElem? (i := 1486) (by decide +kernel), List.mem_of_getElem? (i := 1487) (by decide +kernel)⟩
theorem lw_p74 : lw_okq (⟨"RoadsThankedModel", "byOne", "(II)I"⟩, 56) := ⟨⟨by decide +kernel, by decide +kernel⟩, List.mem_of_getElem? (i := 1029) (by decide +kernel), List.mem_of_getElem? (i := 1490) (by decide +kernel), List.mem_of_getElem? (i := 1491) (by decide +kernel)⟩
theorem lw_p75 : lw_okq (⟨"RoadsThankedModel", "wanted", "(I)I"⟩, 56) := ⟨⟨by decide +kernel, by decide +kernel⟩, List.mem_of_getElem? (i := 1029) (by decide +kernel), List.mem_of_getElem? (i := 1498) (by decide +kernel), List.mem_of_getElem? (i := 1499) (by decide +kernel)⟩
theorem lw_p76 : lw_okq (⟨"RoadsThankedModel", "answered", "(I)I"⟩, 56) := ⟨⟨by decide +kernel, by decide +kernel⟩, List.mem_of_getElem? (i := 1029) (by decide +kernel), List.mem_of_getElem? (i := 1502) (by decide +kernel), List.mem_of_getElem? (i := 1503) (by decide +kernel)⟩
theorem lw_p77 : lw_okq (⟨"RoadsThankedModel", "leadsBy", "(III)I"⟩, 56) := ⟨⟨by decide +kernel, by decide +kernel⟩, List.mem_of_getElem? (i := 1029) (by decide +kernel), List.mem_of_getElem? (i := 1539) (by decide +kernel), List.mem_of_getElem? (i := 1540) (by decide +kernel)⟩
theorem lw_p78 : lw_okq (⟨"RoadsThankedModel", "ran", "(I)V"⟩, 56) := ⟨⟨by decide +kernel, by decide +kernel⟩, List.mem_of_getElem? (i := 1029) (by decide +kernel), List.mem_of_getElem? (i := 1543) (by decide +kernel), List.mem_of_getElem? (i := 1544) (by decide +kernel)⟩
theorem lw_p79 : lw_okq (⟨"RoadsThankedModel", "thanksBy", "(III)I"⟩, 56) := ⟨⟨by decide +kernel, by decide +kernel⟩, List.mem_of_getElem? (i := 1029) (by decide +kernel), List.mem_of_getElem? (i := 1550) (by decide +kernel), List.mem_of_getElem? (i := 1551) (by decide +kernel)⟩
def lw_privs_5 : List (MethodName × Nat) := [(⟨"RoadsThankedModel", "word", "(II)V"⟩, 56), (⟨"RoadsThankedModel", "again", "([I)V"⟩, 56), (⟨"RoadsThankedModel", "rounds", "(IIIII)V"⟩, 56), (⟨"RoadsThankedModel", "isEnough", "(IIIII)Z"⟩, 56), (⟨"RoadsThankedModel", "isPeace", "(I)Z"⟩, 56), (⟨"RoadsThankedModel", "noSunday", "(I)I"⟩, 56), (⟨"RoadsThankedModel", "unlike", "(I)I"⟩, 56), (⟨"RoadsThankedModel", "byTwo", "(I)I"⟩, 56), (⟨"RoadsThankedModel", "isDeed", "(I)Z"⟩, 56), (⟨"RoadsThankedModel", "deed", "(I)V"⟩, 56), (⟨"RoadsThankedModel", "byOne", "(II)I"⟩, 56), (⟨"RoadsThankedModel", "wanted", "(I)I"⟩, 56), (⟨"RoadsThankedModel", "answered", "(I)I"⟩, 56), (⟨"RoadsThankedModel", "leadsBy", "(III)I"⟩, 56), (⟨"RoadsThankedModel", "ran", "(I)V"⟩, 56), (⟨"RoadsThankedModel", "thanksBy", "(III)I"⟩, 56)]
theorem lw_r5 : ∀ q ∈ lw_privs_5, lw_okq q := List.forall_mem_cons.mpr ⟨lw_p64, List.forall_mem_cons.mpr ⟨lw_p65, List.forall_mem_cons.mpr ⟨lw_p66, List.forall_mem_cons.mpr ⟨lw_p67, List.forall_mem_cons.mpr ⟨lw_p68, List.forall_mem_cons.mpr ⟨lw_p69, List.forall_mem_cons.mpr ⟨lw_p70, List.forall_mem_cons.mpr ⟨lw_p71, List.forall_mem_cons.mpr ⟨lw_p72, List.forall_mem_cons.mpr ⟨lw_p73, List.forall_mem_cons.mpr ⟨lw_p74, List.forall_mem_cons.mpr ⟨lw_p75, List.forall_mem_cons.mpr ⟨lw_p76, List.forall_mem_cons.mpr ⟨lw_p77, List.forall_mem_cons.mpr ⟨lw_p78, List.forall_mem_cons.mpr ⟨lw_p79, fun _ h => absurd h List.not_mem_nil⟩⟩⟩⟩⟩⟩⟩⟩⟩⟩⟩⟩⟩⟩⟩⟩
theorem lw_p80 : lw_okq (⟨"RoadsThankedModel", "sulksBy", "(III)I"⟩, 56) := ⟨⟨by decide +kernel, by decide +kernel⟩, List.mem_of_getElem? (i := 1029) (by decide +kernel), List.mem_of_getElem? (i := 1554) (by decide +kernel), List.mem_of_getElem? (i := 1555) (by decide +kernel)⟩
theorem lw_p81 : lw_okq (⟨"RoadsThankedModel", "tells", "(III)I"⟩, 56) := ⟨⟨by decide +kernel, by decide +kernel⟩, List.mem_of_getElem? (i := 1029) (by decide +kernel), List.mem_of_getElem? (i := 1558) (by decide +kernel), List.mem_of_getElem? (i := 1559) (by decide +kernel)⟩
theorem lw_p82 : lw_okq (⟨"RoadsThankedModel", "isRow", "(I)Z"⟩, 56) := ⟨⟨by decide +kernel, by decide +kernel⟩, List.mem_of_getElem? (i := 1029) (by decide +kernel), List.mem_of_getElem? (i := 1578) (by decide +kernel), List.mem_of_getElem? (i := 1579) (by decide +kernel)⟩
def lw_privs_6 : List (MethodName × Nat) := [(⟨"RoadsThankedModel", "sulksBy", "(III)I"⟩, 56), (⟨"RoadsThankedModel", "tells", "(III)I"⟩, 56), (⟨"RoadsThankedModel", "isRow", "(I)Z"⟩, 56)]
theorem lw_r6 : ∀ q ∈ lw_privs_6, lw_okq q := List.forall_mem_cons.mpr ⟨lw_p80, List.forall_mem_cons.mpr ⟨lw_p81, List.forall_mem_cons.mpr ⟨lw_p82, fun _ h => absurd h List.not_mem_nil⟩⟩⟩
def lw_privs : List (MethodName × Nat) := lw_privs_1 ++ (lw_privs_2 ++ (lw_privs_3 ++ (lw_privs_4 ++ (lw_privs_5 ++ (lw_privs_6)))))
def lw_tbl : List Cond := k2_sels lw_privs ++ tables_1
theorem lw_privs_ok : ∀ q ∈ lw_privs, lw_okq q := by
  show ∀ q ∈ lw_privs_1 ++ (lw_privs_2 ++ (lw_privs_3 ++ (lw_privs_4 ++ (lw_privs_5 ++ (lw_privs_6))))), lw_okq q
  exact List.forall_mem_append.mpr ⟨lw_r1, List.forall_mem_append.mpr ⟨lw_r2, List.forall_mem_append.mpr ⟨lw_r3, List.forall_mem_append.mpr ⟨lw_r4, List.forall_mem_append.mpr ⟨lw_r5, lw_r6⟩⟩⟩⟩⟩
def RX0 : String := "RoadsThanked$History"
def TX0 : u_T := fun k => match k with
  | 0 => ("RoadsThanked$History", "net", "LRoadsThanked$Net;", true)
  | 1 => ("RoadsThanked$History", "numbers", "[I", true)
  | 2 => ("RoadsThanked$History", "whats", "[I", true)
  | 3 => ("RoadsThanked$History", "before", "[I", true)
  | 4 => ("RoadsThanked$History", "behind", "[I", true)
  | 5 => ("RoadsThanked$History", "done", "I", false)
  | _ => ("RoadsThanked$History", "made", "I", false)
def tyX0 : Nat → FieldType := fun k => match k with
  | 0 => .object "RoadsThanked$Net"
  | 1 => .array .int
  | 2 => .array .int
  | 3 => .array .int
  | 4 => .array .int
  | 5 => .int
  | _ => .int
abbrev wsX00 : List Cond := u_ws RX0 TX0 7
theorem nmX0 : ∀ a, a < 7 → ∀ b, b < 7 → a ≠ b → (TX0 a).2.1 ≠ (TX0 b).2.1 := by decide +kernel
theorem tyX0_ok : ∀ k, k < 7 → parseFieldDescriptor (TX0 k).2.2.1 = some (tyX0 k) := by decide +kernel
abbrev cX0_init : ByteArray := prog_2_method_1_code
def yX0_init : MethodName := ⟨RX0, "<init>", "(LRoadsThanked$Net;)V"⟩
abbrev cX0_remember : ByteArray := prog_2_method_2_code
def yX0_remember : MethodName := ⟨RX0, "remember", "(IIII)V"⟩
abbrev cX0_forgetOldest : ByteArray := prog_2_method_3_code
def yX0_forgetOldest : MethodName := ⟨RX0, "forgetOldest", "()V"⟩
abbrev cX0_stepBack : ByteArray := prog_2_method_4_code
def yX0_stepBack : MethodName := ⟨RX0, "stepBack", "()V"⟩
abbrev cX0_stepOn : ByteArray := prog_2_method_5_code
def yX0_stepOn : MethodName := ⟨RX0, "stepOn", "()V"⟩
def RX1 : String := "RoadsThanked$Image"
def TX1 : u_T := fun k => match k with
  | 0 => ("RoadsThanked$Image", "net", "LRoadsThanked$Net;", true)
  | 1 => ("RoadsThanked$Image", "isThere", "Z", false)
  | 2 => ("RoadsThanked$Image", "roadCount", "I", false)
  | 3 => ("RoadsThanked$Image", "travellerCount", "I", false)
  | 4 => ("RoadsThanked$Image", "moods", "[I", true)
  | 5 => ("RoadsThanked$Image", "places", "[I", true)
  | _ => ("RoadsThanked$Image", "led", "[I", true)
def tyX1 : Nat → FieldType := fun k => match k with
  | 0 => .object "RoadsThanked$Net"
  | 1 => .boolean
  | 2 => .int
  | 3 => .int
  | 4 => .array .int
  | 5 => .array .int
  | _ => .array .int
abbrev wsX10 : List Cond := u_ws RX1 TX1 7
theorem nmX1 : ∀ a, a < 7 → ∀ b, b < 7 → a ≠ b → (TX1 a).2.1 ≠ (TX1 b).2.1 := by decide +kernel
theorem tyX1_ok : ∀ k, k < 7 → parseFieldDescriptor (TX1 k).2.2.1 = some (tyX1 k) := by decide +kernel
abbrev cX1_init : ByteArray := prog_3_method_1_code
def yX1_init : MethodName := ⟨RX1, "<init>", "(LRoadsThanked$Net;)V"⟩
abbrev cX1_take : ByteArray := prog_3_method_2_code
def yX1_take : MethodName := ⟨RX1, "take", "()V"⟩
abbrev cX1_layBack : ByteArray := prog_3_method_3_code
def yX1_layBack : MethodName := ⟨RX1, "layBack", "()V"⟩
def RX2 : String := "RoadsThanked$Law"
def TX2 : u_T := fun k => match k with
  | 0 => ("RoadsThanked$Law", "steps", "[I", true)
  | 1 => ("RoadsThanked$Law", "size", "I", false)
  | 2 => ("RoadsThanked$Law", "stack", "[I", true)
  | _ => ("RoadsThanked$Law", "top", "I", false)
def tyX2 : Nat → FieldType := fun k => match k with
  | 0 => .array .int
  | 1 => .int
  | 2 => .array .int
  | _ => .int
abbrev wsX20 : List Cond := u_ws RX2 TX2 4
theorem nmX2 : ∀ a, a < 4 → ∀ b, b < 4 → a ≠ b → (TX2 a).2.1 ≠ (TX2 b).2.1 := by decide +kernel
theorem tyX2_ok : ∀ k, k < 4 → parseFieldDescriptor (TX2 k).2.2.1 = some (tyX2 k) := by decide +kernel
abbrev cX2_init : ByteArray := prog_4_method_1_code
def yX2_init : MethodName := ⟨RX2, "<init>", "()V"⟩
abbrev cX2_take : ByteArray := prog_4_method_2_code
def yX2_take : MethodName := ⟨RX2, "take", "([II)V"⟩
abbrev cX2_work : ByteArray := prog_4_method_3_code
def yX2_work : MethodName := ⟨RX2, "work", "(IIIIII)I"⟩
abbrev cX2_endOfLine : ByteArray := prog_4_method_4_code
def yX2_endOfLine : MethodName := ⟨RX2, "endOfLine", "(I)I"⟩
abbrev cX2_joined : ByteArray := prog_4_method_5_code
def yX2_joined : MethodName := ⟨RX2, "joined", "(III)I"⟩
abbrev cX2_push : ByteArray := prog_4_method_6_code
def yX2_push : MethodName := ⟨RX2, "push", "(I)V"⟩
abbrev cX2_pop : ByteArray := prog_4_method_7_code
def yX2_pop : MethodName := ⟨RX2, "pop", "()I"⟩
def RX3 : String := "RoadsThanked$Net"
def TX3 : u_T := fun k => match k with
  | 0 => ("RoadsThanked$Net", "roadCount", "I", false)
  | 1 => ("RoadsThanked$Net", "travellerCount", "I", false)
  | 2 => ("RoadsThanked$Net", "from", "[I", true)
  | 3 => ("RoadsThanked$Net", "to", "[I", true)
  | 4 => ("RoadsThanked$Net", "lengths", "[I", true)
  | 5 => ("RoadsThanked$Net", "moods", "[I", true)
  | 6 => ("RoadsThanked$Net", "jealous", "[I", true)
  | 7 => ("RoadsThanked$Net", "ploughed", "[I", true)
  | 8 => ("RoadsThanked$Net", "places", "[I", true)
  | 9 => ("RoadsThanked$Net", "manners", "[I", true)
  | _ => ("RoadsThanked$Net", "led", "[I", true)
def tyX3 : Nat → FieldType := fun k => match k with
  | 0 => .int
  | 1 => .int
  | 2 => .array .int
  | 3 => .array .int
  | 4 => .array .int
  | 5 => .array .int
  | 6 => .array .int
  | 7 => .array .int
  | 8 => .array .int
  | 9 => .array .int
  | _ => .array .int
abbrev wsX30 : List Cond := u_ws RX3 TX3 11
theorem nmX3 : ∀ a, a < 11 → ∀ b, b < 11 → a ≠ b → (TX3 a).2.1 ≠ (TX3 b).2.1 := by decide +kernel
theorem tyX3_ok : ∀ k, k < 11 → parseFieldDescriptor (TX3 k).2.2.1 = some (tyX3 k) := by decide +kernel
abbrev cX3_init : ByteArray := prog_5_method_1_code
def yX3_init : MethodName := ⟨RX3, "<init>", "()V"⟩
abbrev cX3_isRoad : ByteArray := prog_5_method_2_code
def yX3_isRoad : MethodName := ⟨RX3, "isRoad", "(I)Z"⟩
abbrev cX3_isTraveller : ByteArray := prog_5_method_3_code
def yX3_isTraveller : MethodName := ⟨RX3, "isTraveller", "(I)Z"⟩
abbrev cX3_addRoad : ByteArray := prog_5_method_4_code
def yX3_addRoad : MethodName := ⟨RX3, "addRoad", "(III)I"⟩
abbrev cX3_addTraveller : ByteArray := prog_5_method_5_code
def yX3_addTraveller : MethodName := ⟨RX3, "addTraveller", "(I)I"⟩
abbrev cX3_has : ByteArray := prog_5_method_6_code
def yX3_has : MethodName := ⟨RX3, "has", "(II)Z"⟩
abbrev cX3_column : ByteArray := prog_5_method_7_code
def yX3_column : MethodName := ⟨RX3, "column", "(I)[I"⟩
abbrev cX3_fits : ByteArray := prog_5_method_8_code
def yX3_fits : MethodName := ⟨RX3, "fits", "(III)Z"⟩
abbrev cX3_otherEnd : ByteArray := prog_5_method_9_code
def yX3_otherEnd : MethodName := ⟨RX3, "otherEnd", "(II)I"⟩
abbrev cX3_touch : ByteArray := prog_5_method_10_code
def yX3_touch : MethodName := ⟨RX3, "touch", "(II)Z"⟩
abbrev cX3_say : ByteArray := prog_5_method_11_code
def yX3_say : MethodName := ⟨RX3, "say", "([III)V"⟩
abbrev cX3_calmMoods : ByteArray := prog_5_method_12_code
def yX3_calmMoods : MethodName := ⟨RX3, "calmMoods", "()V"⟩
abbrev cX3_joins : ByteArray := prog_5_method_13_code
def yX3_joins : MethodName := ⟨RX3, "joins", "(III)Z"⟩
abbrev cX3_jealousOf : ByteArray := prog_5_method_14_code
def yX3_jealousOf : MethodName := ⟨RX3, "jealousOf", "(I)I"⟩
abbrev cX3_mostInPeace : ByteArray := prog_5_method_15_code
def yX3_mostInPeace : MethodName := ⟨RX3, "mostInPeace", "()I"⟩
abbrev cX3_isPeace : ByteArray := prog_5_method_16_code
def yX3_isPeace : MethodName := ⟨RX3, "isPeace", "(I)Z"⟩
abbrev cX3_ringOf : ByteArray := prog_5_method_17_code
def yX3_ringOf : MethodName := ⟨RX3, "ringOf", "(I)I"⟩
abbrev cX3_chainFrom : ByteArray := prog_5_method_18_code
def yX3_chainFrom : MethodName := ⟨RX3, "chainFrom", "(I)I"⟩
def RX4 : String := "RoadsThanked$Reader"
def TX4 : u_T := fun k => match k with
  | 0 => ("RoadsThanked$Reader", "letters", "[I", true)
  | 1 => ("RoadsThanked$Reader", "length", "I", false)
  | 2 => ("RoadsThanked$Reader", "steps", "[I", true)
  | 3 => ("RoadsThanked$Reader", "size", "I", false)
  | 4 => ("RoadsThanked$Reader", "at", "I", false)
  | _ => ("RoadsThanked$Reader", "fault", "I", false)
def tyX4 : Nat → FieldType := fun k => match k with
  | 0 => .array .int
  | 1 => .int
  | 2 => .array .int
  | 3 => .int
  | 4 => .int
  | _ => .int
abbrev wsX40 : List Cond := u_ws RX4 TX4 6
theorem nmX4 : ∀ a, a < 6 → ∀ b, b < 6 → a ≠ b → (TX4 a).2.1 ≠ (TX4 b).2.1 := by decide +kernel
theorem tyX4_ok : ∀ k, k < 6 → parseFieldDescriptor (TX4 k).2.2.1 = some (tyX4 k) := by decide +kernel
abbrev cX4_init : ByteArray := prog_6_method_1_code
def yX4_init : MethodName := ⟨RX4, "<init>", "()V"⟩
abbrev cX4_append : ByteArray := prog_6_method_2_code
def yX4_append : MethodName := ⟨RX4, "append", "(I)I"⟩
abbrev cX4_read : ByteArray := prog_6_method_3_code
def yX4_read : MethodName := ⟨RX4, "read", "()I"⟩
abbrev cX4_readLine : ByteArray := prog_6_method_4_code
def yX4_readLine : MethodName := ⟨RX4, "readLine", "()V"⟩
abbrev cX4_readJoined : ByteArray := prog_6_method_5_code
def yX4_readJoined : MethodName := ⟨RX4, "readJoined", "(II)V"⟩
abbrev cX4_readPart : ByteArray := prog_6_method_6_code
def yX4_readPart : MethodName := ⟨RX4, "readPart", "(II)V"⟩
abbrev cX4_readOperand : ByteArray := prog_6_method_7_code
def yX4_readOperand : MethodName := ⟨RX4, "readOperand", "(I)V"⟩
abbrev cX4_readClosing : ByteArray := prog_6_method_8_code
def yX4_readClosing : MethodName := ⟨RX4, "readClosing", "()V"⟩
abbrev cX4_readNumber : ByteArray := prog_6_method_9_code
def yX4_readNumber : MethodName := ⟨RX4, "readNumber", "()V"⟩
abbrev cX4_next : ByteArray := prog_6_method_10_code
def yX4_next : MethodName := ⟨RX4, "next", "()I"⟩
abbrev cX4_blame : ByteArray := prog_6_method_11_code
def yX4_blame : MethodName := ⟨RX4, "blame", "()V"⟩
abbrev cX4_addStep : ByteArray := prog_6_method_12_code
def yX4_addStep : MethodName := ⟨RX4, "addStep", "(I)V"⟩
abbrev cX4_isDigit : ByteArray := prog_6_method_13_code
def yX4_isDigit : MethodName := ⟨RX4, "isDigit", "(I)Z"⟩
abbrev cX4_isName : ByteArray := prog_6_method_14_code
def yX4_isName : MethodName := ⟨RX4, "isName", "(I)Z"⟩
abbrev cX4_isSign : ByteArray := prog_6_method_15_code
def yX4_isSign : MethodName := ⟨RX4, "isSign", "(II)Z"⟩
def RX5 : String := "RoadsThanked$Rounds"
def TX5 : u_T := fun k => match k with
  | 0 => ("RoadsThanked$Rounds", "thought", "LRoadsThanked$Thought;", true)
  | 1 => ("RoadsThanked$Rounds", "table", "[I", true)
  | 2 => ("RoadsThanked$Rounds", "tried", "[I", true)
  | 3 => ("RoadsThanked$Rounds", "order", "[I", true)
  | 4 => ("RoadsThanked$Rounds", "start", "I", false)
  | _ => ("RoadsThanked$Rounds", "fewest", "I", false)
def tyX5 : Nat → FieldType := fun k => match k with
  | 0 => .object "RoadsThanked$Thought"
  | 1 => .array .int
  | 2 => .array .int
  | 3 => .array .int
  | 4 => .int
  | _ => .int
abbrev wsX50 : List Cond := u_ws RX5 TX5 6
theorem nmX5 : ∀ a, a < 6 → ∀ b, b < 6 → a ≠ b → (TX5 a).2.1 ≠ (TX5 b).2.1 := by decide +kernel
theorem tyX5_ok : ∀ k, k < 6 → parseFieldDescriptor (TX5 k).2.2.1 = some (tyX5 k) := by decide +kernel
abbrev cX5_init : ByteArray := prog_7_method_1_code
def yX5_init : MethodName := ⟨RX5, "<init>", "(LRoadsThanked$Thought;)V"⟩
abbrev cX5_seek : ByteArray := prog_7_method_2_code
def yX5_seek : MethodName := ⟨RX5, "seek", "(II)V"⟩
abbrev cX5_goOn : ByteArray := prog_7_method_3_code
def yX5_goOn : MethodName := ⟨RX5, "goOn", "(IIII)V"⟩
abbrev cX5_finish : ByteArray := prog_7_method_4_code
def yX5_finish : MethodName := ⟨RX5, "finish", "(I)V"⟩
def RX6 : String := "RoadsThanked$Search"
def TX6 : u_T := fun k => match k with
  | 0 => ("RoadsThanked$Search", "net", "LRoadsThanked$Net;", true)
  | 1 => ("RoadsThanked$Search", "thought", "LRoadsThanked$Thought;", true)
  | 2 => ("RoadsThanked$Search", "picks", "[I", true)
  | 3 => ("RoadsThanked$Search", "behindFirst", "[I", true)
  | 4 => ("RoadsThanked$Search", "value", "I", false)
  | _ => ("RoadsThanked$Search", "deed", "I", false)
def tyX6 : Nat → FieldType := fun k => match k with
  | 0 => .object "RoadsThanked$Net"
  | 1 => .object "RoadsThanked$Thought"
  | 2 => .array .int
  | 3 => .array .int
  | 4 => .int
  | _ => .int
abbrev wsX60 : List Cond := u_ws RX6 TX6 6
theorem nmX6 : ∀ a, a < 6 → ∀ b, b < 6 → a ≠ b → (TX6 a).2.1 ≠ (TX6 b).2.1 := by decide +kernel
theorem tyX6_ok : ∀ k, k < 6 → parseFieldDescriptor (TX6 k).2.2.1 = some (tyX6 k) := by decide +kernel
abbrev cX6_init : ByteArray := prog_8_method_1_code
def yX6_init : MethodName := ⟨RX6, "<init>", "(LRoadsThanked$Net;LRoadsThanked$Thought;)V"⟩
abbrev cX6_fewestThanks : ByteArray := prog_8_method_2_code
def yX6_fewestThanks : MethodName := ⟨RX6, "fewestThanks", "(III)I"⟩
abbrev cX6_findThanks : ByteArray := prog_8_method_3_code
def yX6_findThanks : MethodName := ⟨RX6, "findThanks", "(IIII)Z"⟩
abbrev cX6_nextPicks : ByteArray := prog_8_method_4_code
def yX6_nextPicks : MethodName := ⟨RX6, "nextPicks", "(I)Z"⟩
abbrev cX6_bestThanks : ByteArray := prog_8_method_5_code
def yX6_bestThanks : MethodName := ⟨RX6, "bestThanks", "()V"⟩
abbrev cX6_perform : ByteArray := prog_8_method_6_code
def yX6_perform : MethodName := ⟨RX6, "perform", "(I)V"⟩
abbrev cX6_turns : ByteArray := prog_8_method_7_code
def yX6_turns : MethodName := ⟨RX6, "turns", "()I"⟩
abbrev cX6_numberOf : ByteArray := prog_8_method_8_code
def yX6_numberOf : MethodName := ⟨RX6, "numberOf", "(I)I"⟩
abbrev cX6_deedsThatFit : ByteArray := prog_8_method_9_code
def yX6_deedsThatFit : MethodName := ⟨RX6, "deedsThatFit", "(LRoadsThanked$Shelf;)V"⟩
abbrev cX6_pairsThatFit : ByteArray := prog_8_method_10_code
def yX6_pairsThatFit : MethodName := ⟨RX6, "pairsThatFit", "(LRoadsThanked$Shelf;)I"⟩
abbrev cX6_performFirst : ByteArray := prog_8_method_11_code
def yX6_performFirst : MethodName := ⟨RX6, "performFirst", "(I)V"⟩
abbrev cX6_performSecond : ByteArray := prog_8_method_12_code
def yX6_performSecond : MethodName := ⟨RX6, "performSecond", "(I)V"⟩
abbrev cX6_takeTurns : ByteArray := prog_8_method_13_code
def yX6_takeTurns : MethodName := ⟨RX6, "takeTurns", "(III)V"⟩
abbrev cX6_worstAnswer : ByteArray := prog_8_method_14_code
def yX6_worstAnswer : MethodName := ⟨RX6, "worstAnswer", "(III)I"⟩
abbrev cX6_draw : ByteArray := prog_8_method_15_code
def yX6_draw : MethodName := ⟨RX6, "draw", "(IIIII)I"⟩
def RX7 : String := "RoadsThanked$Shelf"
def TX7 : u_T := fun k => match k with
  | 0 => ("RoadsThanked$Shelf", "sort", "I", false)
  | 1 => ("RoadsThanked$Shelf", "size", "I", false)
  | 2 => ("RoadsThanked$Shelf", "stone", "I", false)
  | _ => ("RoadsThanked$Shelf", "elements", "[J", true)
def tyX7 : Nat → FieldType := fun k => match k with
  | 0 => .int
  | 1 => .int
  | 2 => .int
  | _ => .array .long
abbrev wsX70 : List Cond := u_ws RX7 TX7 4
theorem nmX7 : ∀ a, a < 4 → ∀ b, b < 4 → a ≠ b → (TX7 a).2.1 ≠ (TX7 b).2.1 := by decide +kernel
theorem tyX7_ok : ∀ k, k < 4 → parseFieldDescriptor (TX7 k).2.2.1 = some (tyX7 k) := by decide +kernel
abbrev cX7_init : ByteArray := prog_9_method_1_code
def yX7_init : MethodName := ⟨RX7, "<init>", "()V"⟩
abbrev cX7_isRow : ByteArray := prog_9_method_2_code
def yX7_isRow : MethodName := ⟨RX7, "isRow", "()Z"⟩
abbrev cX7_isRowOf : ByteArray := prog_9_method_3_code
def yX7_isRowOf : MethodName := ⟨RX7, "isRowOf", "(I)Z"⟩
abbrev cX7_isEmpty : ByteArray := prog_9_method_4_code
def yX7_isEmpty : MethodName := ⟨RX7, "isEmpty", "()Z"⟩
abbrev cX7_holdStone : ByteArray := prog_9_method_5_code
def yX7_holdStone : MethodName := ⟨RX7, "holdStone", "(I)V"⟩
abbrev cX7_holdRow : ByteArray := prog_9_method_6_code
def yX7_holdRow : MethodName := ⟨RX7, "holdRow", "(II)V"⟩
abbrev cX7_refusalOf : ByteArray := prog_9_method_7_code
def yX7_refusalOf : MethodName := ⟨RX7, "refusalOf", "(I)I"⟩
abbrev cX7_refusalAt : ByteArray := prog_9_method_8_code
def yX7_refusalAt : MethodName := ⟨RX7, "refusalAt", "(I)I"⟩
abbrev cX7_hasSpan : ByteArray := prog_9_method_9_code
def yX7_hasSpan : MethodName := ⟨RX7, "hasSpan", "(II)Z"⟩
abbrev cX7_cut : ByteArray := prog_9_method_10_code
def yX7_cut : MethodName := ⟨RX7, "cut", "(J)J"⟩
def RX8 : String := "RoadsThanked$Stones"
def TX8 : u_T := fun k => match k with
  | 0 => ("RoadsThanked$Stones", "many", "I", false)
  | 1 => ("RoadsThanked$Stones", "kinds", "[I", true)
  | 2 => ("RoadsThanked$Stones", "notes", "[I", true)
  | 3 => ("RoadsThanked$Stones", "ran", "I", false)
  | 4 => ("RoadsThanked$Stones", "kind", "I", false)
  | _ => ("RoadsThanked$Stones", "number", "I", false)
def tyX8 : Nat → FieldType := fun k => match k with
  | 0 => .int
  | 1 => .array .int
  | 2 => .array .int
  | 3 => .int
  | 4 => .int
  | _ => .int
abbrev wsX80 : List Cond := u_ws RX8 TX8 6
theorem nmX8 : ∀ a, a < 6 → ∀ b, b < 6 → a ≠ b → (TX8 a).2.1 ≠ (TX8 b).2.1 := by decide +kernel
theorem tyX8_ok : ∀ k, k < 6 → parseFieldDescriptor (TX8 k).2.2.1 = some (tyX8 k) := by decide +kernel
abbrev cX8_init : ByteArray := prog_10_method_1_code
def yX8_init : MethodName := ⟨RX8, "<init>", "()V"⟩
abbrev cX8_add : ByteArray := prog_10_method_2_code
def yX8_add : MethodName := ⟨RX8, "add", "(I)I"⟩
abbrev cX8_isThere : ByteArray := prog_10_method_3_code
def yX8_isThere : MethodName := ⟨RX8, "isThere", "(I)Z"⟩
abbrev cX8_isUnder : ByteArray := prog_10_method_4_code
def yX8_isUnder : MethodName := ⟨RX8, "isUnder", "(II)Z"⟩
abbrev cX8_noted : ByteArray := prog_10_method_5_code
def yX8_noted : MethodName := ⟨RX8, "noted", "()I"⟩
abbrev cX8_perform : ByteArray := prog_10_method_6_code
def yX8_perform : MethodName := ⟨RX8, "perform", "(III)I"⟩
abbrev cX8_holderOf : ByteArray := prog_10_method_7_code
def yX8_holderOf : MethodName := ⟨RX8, "holderOf", "(II)I"⟩
abbrev cX8_note : ByteArray := prog_10_method_8_code
def yX8_note : MethodName := ⟨RX8, "note", "(I)V"⟩
abbrev cX8_run : ByteArray := prog_10_method_9_code
def yX8_run : MethodName := ⟨RX8, "run", "(IIII)I"⟩
def RX9 : String := "RoadsThanked$Thought"
def TX9 : u_T := fun k => match k with
  | 0 => ("RoadsThanked$Thought", "net", "LRoadsThanked$Net;", true)
  | 1 => ("RoadsThanked$Thought", "text", "LRoadsThanked$Law;", true)
  | 2 => ("RoadsThanked$Thought", "moods", "[I", true)
  | 3 => ("RoadsThanked$Thought", "known", "[I", true)
  | 4 => ("RoadsThanked$Thought", "knownFor", "[I", true)
  | 5 => ("RoadsThanked$Thought", "thoughts", "I", false)
  | 6 => ("RoadsThanked$Thought", "neighbours", "[I", true)
  | 7 => ("RoadsThanked$Thought", "hours", "[I", true)
  | 8 => ("RoadsThanked$Thought", "distance", "[I", true)
  | _ => ("RoadsThanked$Thought", "without", "I", false)
def tyX9 : Nat → FieldType := fun k => match k with
  | 0 => .object "RoadsThanked$Net"
  | 1 => .object "RoadsThanked$Law"
  | 2 => .array .int
  | 3 => .array .int
  | 4 => .array .int
  | 5 => .int
  | 6 => .array .int
  | 7 => .array .int
  | 8 => .array .int
  | _ => .int
abbrev wsX90 : List Cond := u_ws RX9 TX9 10
theorem nmX9 : ∀ a, a < 10 → ∀ b, b < 10 → a ≠ b → (TX9 a).2.1 ≠ (TX9 b).2.1 := by decide +kernel
theorem tyX9_ok : ∀ k, k < 10 → parseFieldDescriptor (TX9 k).2.2.1 = some (tyX9 k) := by decide +kernel
abbrev cX9_init : ByteArray := prog_11_method_1_code
def yX9_init : MethodName := ⟨RX9, "<init>", "(LRoadsThanked$Net;LRoadsThanked$Law;)V"⟩
abbrev cX9_begin : ByteArray := prog_11_method_2_code
def yX9_begin : MethodName := ⟨RX9, "begin", "(I)V"⟩
abbrev cX9_moodsAsNow : ByteArray := prog_11_method_3_code
def yX9_moodsAsNow : MethodName := ⟨RX9, "moodsAsNow", "()V"⟩
abbrev cX9_isOpen : ByteArray := prog_11_method_4_code
def yX9_isOpen : MethodName := ⟨RX9, "isOpen", "(I)Z"⟩
abbrev cX9_takes : ByteArray := prog_11_method_5_code
def yX9_takes : MethodName := ⟨RX9, "takes", "(I)I"⟩
abbrev cX9_workOut : ByteArray := prog_11_method_6_code
def yX9_workOut : MethodName := ⟨RX9, "workOut", "(III)I"⟩
abbrev cX9_countNeighbours : ByteArray := prog_11_method_7_code
def yX9_countNeighbours : MethodName := ⟨RX9, "countNeighbours", "(I)I"⟩
abbrev cX9_takesInAll : ByteArray := prog_11_method_8_code
def yX9_takesInAll : MethodName := ⟨RX9, "takesInAll", "()I"⟩
abbrev cX9_measureFrom : ByteArray := prog_11_method_9_code
def yX9_measureFrom : MethodName := ⟨RX9, "measureFrom", "(I)V"⟩
abbrev cX9_comeNearer : ByteArray := prog_11_method_10_code
def yX9_comeNearer : MethodName := ⟨RX9, "comeNearer", "()Z"⟩
abbrev cX9_tellWay : ByteArray := prog_11_method_11_code
def yX9_tellWay : MethodName := ⟨RX9, "tellWay", "(III)I"⟩
abbrev cX9_nextRoad : ByteArray := prog_11_method_12_code
def yX9_nextRoad : MethodName := ⟨RX9, "nextRoad", "(I)I"⟩
abbrev cX9_placesWithin : ByteArray := prog_11_method_13_code
def yX9_placesWithin : MethodName := ⟨RX9, "placesWithin", "(I)I"⟩
abbrev cX9_farthest : ByteArray := prog_11_method_14_code
def yX9_farthest : MethodName := ⟨RX9, "farthest", "()I"⟩
abbrev cX9_firstNotSo : ByteArray := prog_11_method_15_code
def yX9_firstNotSo : MethodName := ⟨RX9, "firstNotSo", "(LRoadsThanked$Shelf;)I"⟩
def RX10 : String := "RoadsThanked$Walk"
def TX10 : u_T := fun k => match k with
  | 0 => ("RoadsThanked$Walk", "net", "LRoadsThanked$Net;", true)
  | 1 => ("RoadsThanked$Walk", "thought", "LRoadsThanked$Thought;", true)
  | 2 => ("RoadsThanked$Walk", "taken", "I", false)
  | 3 => ("RoadsThanked$Walk", "place", "I", false)
  | _ => ("RoadsThanked$Walk", "stuck", "I", false)
def tyX10 : Nat → FieldType := fun k => match k with
  | 0 => .object "RoadsThanked$Net"
  | 1 => .object "RoadsThanked$Thought"
  | 2 => .int
  | 3 => .int
  | _ => .int
abbrev wsX100 : List Cond := u_ws RX10 TX10 5
theorem nmX10 : ∀ a, a < 5 → ∀ b, b < 5 → a ≠ b → (TX10 a).2.1 ≠ (TX10 b).2.1 := by decide +kernel
theorem tyX10_ok : ∀ k, k < 5 → parseFieldDescriptor (TX10 k).2.2.1 = some (tyX10 k) := by decide +kernel
abbrev cX10_init : ByteArray := prog_12_method_1_code
def yX10_init : MethodName := ⟨RX10, "<init>", "(LRoadsThanked$Net;LRoadsThanked$Thought;)V"⟩
abbrev cX10_go : ByteArray := prog_12_method_2_code
def yX10_go : MethodName := ⟨RX10, "go", "(LRoadsThanked$Shelf;I)V"⟩
def RX11 : String := "RoadsThanked"
def TX11 : u_T := fun k => match k with
  | 0 => ("RoadsThanked", "net", "LRoadsThanked$Net;", true)
  | 1 => ("RoadsThanked", "tape", "LRoadsThanked$Reader;", true)
  | 2 => ("RoadsThanked", "text", "LRoadsThanked$Law;", true)
  | 3 => ("RoadsThanked", "thought", "LRoadsThanked$Thought;", true)
  | 4 => ("RoadsThanked", "search", "LRoadsThanked$Search;", true)
  | 5 => ("RoadsThanked", "rounds", "LRoadsThanked$Rounds;", true)
  | 6 => ("RoadsThanked", "walk", "LRoadsThanked$Walk;", true)
  | 7 => ("RoadsThanked", "history", "LRoadsThanked$History;", true)
  | 8 => ("RoadsThanked", "kept", "LRoadsThanked$Image;", true)
  | 9 => ("RoadsThanked", "stones", "LRoadsThanked$Stones;", true)
  | _ => ("RoadsThanked", "shelves", "[LRoadsThanked$Shelf;", true)
def tyX11 : Nat → FieldType := fun k => match k with
  | 0 => .object "RoadsThanked$Net"
  | 1 => .object "RoadsThanked$Reader"
  | 2 => .object "RoadsThanked$Law"
  | 3 => .object "RoadsThanked$Thought"
  | 4 => .object "RoadsThanked$Search"
  | 5 => .object "RoadsThanked$Rounds"
  | 6 => .object "RoadsThanked$Walk"
  | 7 => .object "RoadsThanked$History"
  | 8 => .object "RoadsThanked$Image"
  | 9 => .object "RoadsThanked$Stones"
  | _ => .array (.object "RoadsThanked$Shelf")
abbrev wsX110 : List Cond := u_ws RX11 TX11 11
theorem nmX11 : ∀ a, a < 11 → ∀ b, b < 11 → a ≠ b → (TX11 a).2.1 ≠ (TX11 b).2.1 := by decide +kernel
theorem tyX11_ok : ∀ k, k < 11 → parseFieldDescriptor (TX11 k).2.2.1 = some (tyX11 k) := by decide +kernel
abbrev cX11_init : ByteArray := prog_1_method_1_code
def yX11_init : MethodName := ⟨RX11, "<init>", "()V"⟩
abbrev cX11_road : ByteArray := prog_1_method_2_code
def yX11_road : MethodName := ⟨RX11, "road", "(II)I"⟩
abbrev cX11_roads : ByteArray := prog_1_method_3_code
def yX11_roads : MethodName := ⟨RX11, "roads", "(III)I"⟩
abbrev cX11_addRoadFrom : ByteArray := prog_1_method_4_code
def yX11_addRoadFrom : MethodName := ⟨RX11, "addRoadFrom", "(LRoadsThanked$Shelf;I)Z"⟩
abbrev cX11_traveller : ByteArray := prog_1_method_5_code
def yX11_traveller : MethodName := ⟨RX11, "traveller", "(I)I"⟩
abbrev cX11_mend : ByteArray := prog_1_method_6_code
def yX11_mend : MethodName := ⟨RX11, "mend", "(III)I"⟩
abbrev cX11_of : ByteArray := prog_1_method_7_code
def yX11_of : MethodName := ⟨RX11, "of", "(II)I"⟩
abbrev cX11_feed : ByteArray := prog_1_method_8_code
def yX11_feed : MethodName := ⟨RX11, "feed", "(I)I"⟩
abbrev cX11_law : ByteArray := prog_1_method_9_code
def yX11_law : MethodName := ⟨RX11, "law", "()I"⟩
abbrev cX11_hours : ByteArray := prog_1_method_10_code
def yX11_hours : MethodName := ⟨RX11, "hours", "(I)I"⟩
abbrev cX11_way : ByteArray := prog_1_method_11_code
def yX11_way : MethodName := ⟨RX11, "way", "(II)I"⟩
abbrev cX11_reach : ByteArray := prog_1_method_12_code
def yX11_reach : MethodName := ⟨RX11, "reach", "(III)I"⟩
abbrev cX11_needed : ByteArray := prog_1_method_13_code
def yX11_needed : MethodName := ⟨RX11, "needed", "(I)I"⟩
abbrev cX11_longer : ByteArray := prog_1_method_14_code
def yX11_longer : MethodName := ⟨RX11, "longer", "(II)I"⟩
abbrev cX11_trip : ByteArray := prog_1_method_15_code
def yX11_trip : MethodName := ⟨RX11, "trip", "(III)I"⟩
abbrev cX11_isOfTrip : ByteArray := prog_1_method_16_code
def yX11_isOfTrip : MethodName := ⟨RX11, "isOfTrip", "(I)Z"⟩
abbrev cX11_round : ByteArray := prog_1_method_17_code
def yX11_round : MethodName := ⟨RX11, "round", "(III)I"⟩
abbrev cX11_least : ByteArray := prog_1_method_18_code
def yX11_least : MethodName := ⟨RX11, "least", "(III)I"⟩
abbrev cX11_best : ByteArray := prog_1_method_19_code
def yX11_best : MethodName := ⟨RX11, "best", "(I)I"⟩
abbrev cX11_anger : ByteArray := prog_1_method_20_code
def yX11_anger : MethodName := ⟨RX11, "anger", "(I)I"⟩
abbrev cX11_peace : ByteArray := prog_1_method_21_code
def yX11_peace : MethodName := ⟨RX11, "peace", "(I)I"⟩
abbrev cX11_ring : ByteArray := prog_1_method_22_code
def yX11_ring : MethodName := ⟨RX11, "ring", "(II)I"⟩
abbrev cX11_judge : ByteArray := prog_1_method_23_code
def yX11_judge : MethodName := ⟨RX11, "judge", "(I)I"⟩
abbrev cX11_sunday : ByteArray := prog_1_method_24_code
def yX11_sunday : MethodName := ⟨RX11, "sunday", "(II)I"⟩
abbrev cX11_byTurns : ByteArray := prog_1_method_25_code
def yX11_byTurns : MethodName := ⟨RX11, "byTurns", "(III)I"⟩
abbrev cX11_drawn : ByteArray := prog_1_method_26_code
def yX11_drawn : MethodName := ⟨RX11, "drawn", "(III)I"⟩
abbrev cX11_goes : ByteArray := prog_1_method_27_code
def yX11_goes : MethodName := ⟨RX11, "goes", "(III)I"⟩
abbrev cX11_night : ByteArray := prog_1_method_28_code
def yX11_night : MethodName := ⟨RX11, "night", "()I"⟩
abbrev cX11_led : ByteArray := prog_1_method_29_code
def yX11_led : MethodName := ⟨RX11, "led", "(I)I"⟩
abbrev cX11_image : ByteArray := prog_1_method_30_code
def yX11_image : MethodName := ⟨RX11, "image", "()I"⟩
abbrev cX11_back : ByteArray := prog_1_method_31_code
def yX11_back : MethodName := ⟨RX11, "back", "()I"⟩
abbrev cX11_undo : ByteArray := prog_1_method_32_code
def yX11_undo : MethodName := ⟨RX11, "undo", "()I"⟩
abbrev cX11_redo : ByteArray := prog_1_method_33_code
def yX11_redo : MethodName := ⟨RX11, "redo", "()I"⟩
abbrev cX11_body : ByteArray := prog_1_method_34_code
def yX11_body : MethodName := ⟨RX11, "body", "(I)I"⟩
abbrev cX11_act : ByteArray := prog_1_method_35_code
def yX11_act : MethodName := ⟨RX11, "act", "(III)I"⟩
abbrev cX11_trace : ByteArray := prog_1_method_36_code
def yX11_trace : MethodName := ⟨RX11, "trace", "(I)I"⟩
abbrev cX11_keep : ByteArray := prog_1_method_37_code
def yX11_keep : MethodName := ⟨RX11, "keep", "(II)I"⟩
abbrev cX11_row : ByteArray := prog_1_method_38_code
def yX11_row : MethodName := ⟨RX11, "row", "(III)I"⟩
abbrev cX11_put : ByteArray := prog_1_method_39_code
def yX11_put : MethodName := ⟨RX11, "put", "(IIJ)I"⟩
abbrev cX11_element : ByteArray := prog_1_method_40_code
def yX11_element : MethodName := ⟨RX11, "element", "(II)J"⟩
abbrev cX11_shift : ByteArray := prog_1_method_41_code
def yX11_shift : MethodName := ⟨RX11, "shift", "(IIIII)I"⟩
abbrev cX11_taken : ByteArray := prog_1_method_42_code
def yX11_taken : MethodName := ⟨RX11, "taken", "(II)I"⟩
abbrev cX11_count : ByteArray := prog_1_method_43_code
def yX11_count : MethodName := ⟨RX11, "count", "(I)I"⟩
abbrev cX11_isPlace : ByteArray := prog_1_method_44_code
def yX11_isPlace : MethodName := ⟨RX11, "isPlace", "(I)Z"⟩
abbrev cX11_isPair : ByteArray := prog_1_method_45_code
def yX11_isPair : MethodName := ⟨RX11, "isPair", "(I)Z"⟩
abbrev cX11_isLength : ByteArray := prog_1_method_46_code
def yX11_isLength : MethodName := ⟨RX11, "isLength", "(I)Z"⟩
abbrev cX11_isTime : ByteArray := prog_1_method_47_code
def yX11_isTime : MethodName := ⟨RX11, "isTime", "(I)Z"⟩
abbrev cX11_isShelf : ByteArray := prog_1_method_48_code
def yX11_isShelf : MethodName := ⟨RX11, "isShelf", "(I)Z"⟩
abbrev cX11_isKind : ByteArray := prog_1_method_49_code
def yX11_isKind : MethodName := ⟨RX11, "isKind", "(I)Z"⟩
def RX12 : String := "RoadsThankedModel"
def TX12 : u_T := fun k => match k with
  | 0 => ("RoadsThankedModel", "many", "I", false)
  | 1 => ("RoadsThankedModel", "one", "[I", true)
  | 2 => ("RoadsThankedModel", "other", "[I", true)
  | 3 => ("RoadsThankedModel", "ways", "[I", true)
  | 4 => ("RoadsThankedModel", "people", "I", false)
  | 5 => ("RoadsThankedModel", "place", "[I", true)
  | 6 => ("RoadsThankedModel", "manners", "[I", true)
  | 7 => ("RoadsThankedModel", "taped", "I", false)
  | 8 => ("RoadsThankedModel", "tape", "[I", true)
  | 9 => ("RoadsThankedModel", "isTold", "Z", false)
  | 10 => ("RoadsThankedModel", "lines", "I", false)
  | 11 => ("RoadsThankedModel", "asks", "[I", true)
  | 12 => ("RoadsThankedModel", "says", "[I", true)
  | 13 => ("RoadsThankedModel", "ends", "[I", true)
  | 14 => ("RoadsThankedModel", "code", "[I", true)
  | 15 => ("RoadsThankedModel", "at", "I", false)
  | 16 => ("RoadsThankedModel", "open", "I", false)
  | 17 => ("RoadsThankedModel", "coded", "I", false)
  | 18 => ("RoadsThankedModel", "newLines", "I", false)
  | 19 => ("RoadsThankedModel", "newAsks", "[I", true)
  | 20 => ("RoadsThankedModel", "newSays", "[I", true)
  | 21 => ("RoadsThankedModel", "newEnds", "[I", true)
  | 22 => ("RoadsThankedModel", "newCode", "[I", true)
  | 23 => ("RoadsThankedModel", "stack", "[I", true)
  | 24 => ("RoadsThankedModel", "names", "[I", true)
  | 25 => ("RoadsThankedModel", "led", "[I", true)
  | 26 => ("RoadsThankedModel", "imaged", "Z", false)
  | 27 => ("RoadsThankedModel", "oldMany", "I", false)
  | 28 => ("RoadsThankedModel", "oldPeople", "I", false)
  | 29 => ("RoadsThankedModel", "oldMoods", "[I", true)
  | 30 => ("RoadsThankedModel", "oldPlaces", "[I", true)
  | 31 => ("RoadsThankedModel", "oldLed", "[I", true)
  | 32 => ("RoadsThankedModel", "changes", "I", false)
  | 33 => ("RoadsThankedModel", "done", "I", false)
  | 34 => ("RoadsThankedModel", "changed", "[I", true)
  | 35 => ("RoadsThankedModel", "bodies", "I", false)
  | 36 => ("RoadsThankedModel", "kind", "[I", true)
  | 37 => ("RoadsThankedModel", "traced", "I", false)
  | 38 => ("RoadsThankedModel", "traces", "[I", true)
  | 39 => ("RoadsThankedModel", "holding", "[I", true)
  | 40 => ("RoadsThankedModel", "rowLength", "[I", true)
  | 41 => ("RoadsThankedModel", "rowOf", "[J", true)
  | 42 => ("RoadsThankedModel", "now", "[I", true)
  | 43 => ("RoadsThankedModel", "far", "[I", true)
  | 44 => ("RoadsThankedModel", "was", "[I", true)
  | 45 => ("RoadsThankedModel", "before", "[I", true)
  | 46 => ("RoadsThankedModel", "tripHours", "I", false)
  | 47 => ("RoadsThankedModel", "tripPlace", "I", false)
  | 48 => ("RoadsThankedModel", "tripStop", "I", false)
  | 49 => ("RoadsThankedModel", "between", "[I", true)
  | 50 => ("RoadsThankedModel", "stops", "I", false)
  | 51 => ("RoadsThankedModel", "whom", "[I", true)
  | 52 => ("RoadsThankedModel", "tried", "[I", true)
  | 53 => ("RoadsThankedModel", "best", "[I", true)
  | 54 => ("RoadsThankedModel", "bestHours", "I", false)
  | _ => ("RoadsThankedModel", "given", "[I", true)
def tyX12 : Nat → FieldType := fun k => match k with
  | 0 => .int
  | 1 => .array .int
  | 2 => .array .int
  | 3 => .array .int
  | 4 => .int
  | 5 => .array .int
  | 6 => .array .int
  | 7 => .int
  | 8 => .array .int
  | 9 => .boolean
  | 10 => .int
  | 11 => .array .int
  | 12 => .array .int
  | 13 => .array .int
  | 14 => .array .int
  | 15 => .int
  | 16 => .int
  | 17 => .int
  | 18 => .int
  | 19 => .array .int
  | 20 => .array .int
  | 21 => .array .int
  | 22 => .array .int
  | 23 => .array .int
  | 24 => .array .int
  | 25 => .array .int
  | 26 => .boolean
  | 27 => .int
  | 28 => .int
  | 29 => .array .int
  | 30 => .array .int
  | 31 => .array .int
  | 32 => .int
  | 33 => .int
  | 34 => .array .int
  | 35 => .int
  | 36 => .array .int
  | 37 => .int
  | 38 => .array .int
  | 39 => .array .int
  | 40 => .array .int
  | 41 => .array .long
  | 42 => .array .int
  | 43 => .array .int
  | 44 => .array .int
  | 45 => .array .int
  | 46 => .int
  | 47 => .int
  | 48 => .int
  | 49 => .array .int
  | 50 => .int
  | 51 => .array .int
  | 52 => .array .int
  | 53 => .array .int
  | 54 => .int
  | _ => .array .int
abbrev wsX120 : List Cond := u_ws RX12 TX12 56
theorem nmX12 : ∀ a, a < 56 → ∀ b, b < 56 → a ≠ b → (TX12 a).2.1 ≠ (TX12 b).2.1 := by decide +kernel
theorem tyX12_ok : ∀ k, k < 56 → parseFieldDescriptor (TX12 k).2.2.1 = some (tyX12 k) := by decide +kernel
abbrev cX12_init : ByteArray := prog_14_method_1_code
def yX12_init : MethodName := ⟨RX12, "<init>", "()V"⟩
abbrev cX12_within : ByteArray := prog_14_method_2_code
def yX12_within : MethodName := ⟨RX12, "within", "(III)Z"⟩
abbrev cX12_isRoad : ByteArray := prog_14_method_3_code
def yX12_isRoad : MethodName := ⟨RX12, "isRoad", "(I)Z"⟩
abbrev cX12_isOne : ByteArray := prog_14_method_4_code
def yX12_isOne : MethodName := ⟨RX12, "isOne", "(I)Z"⟩
abbrev cX12_isPlace : ByteArray := prog_14_method_5_code
def yX12_isPlace : MethodName := ⟨RX12, "isPlace", "(I)Z"⟩
abbrev cX12_areTwo : ByteArray := prog_14_method_6_code
def yX12_areTwo : MethodName := ⟨RX12, "areTwo", "(I)Z"⟩
abbrev cX12_isShelf : ByteArray := prog_14_method_7_code
def yX12_isShelf : MethodName := ⟨RX12, "isShelf", "(I)Z"⟩
abbrev cX12_newRoad : ByteArray := prog_14_method_8_code
def yX12_newRoad : MethodName := ⟨RX12, "newRoad", "(III)I"⟩
abbrev cX12_road : ByteArray := prog_14_method_9_code
def yX12_road : MethodName := ⟨RX12, "road", "(II)I"⟩
abbrev cX12_roads : ByteArray := prog_14_method_10_code
def yX12_roads : MethodName := ⟨RX12, "roads", "(III)I"⟩
abbrev cX12_toldAt : ByteArray := prog_14_method_11_code
def yX12_toldAt : MethodName := ⟨RX12, "toldAt", "(II)I"⟩
abbrev cX12_traveller : ByteArray := prog_14_method_12_code
def yX12_traveller : MethodName := ⟨RX12, "traveller", "(I)I"⟩
abbrev cX12_isOf : ByteArray := prog_14_method_13_code
def yX12_isOf : MethodName := ⟨RX12, "isOf", "(II)Z"⟩
abbrev cX12_isFit : ByteArray := prog_14_method_14_code
def yX12_isFit : MethodName := ⟨RX12, "isFit", "(III)Z"⟩
abbrev cX12_get : ByteArray := prog_14_method_15_code
def yX12_get : MethodName := ⟨RX12, "get", "(II)I"⟩
abbrev cX12_becomes : ByteArray := prog_14_method_16_code
def yX12_becomes : MethodName := ⟨RX12, "becomes", "(III)V"⟩
abbrev cX12_mend : ByteArray := prog_14_method_17_code
def yX12_mend : MethodName := ⟨RX12, "mend", "(III)I"⟩
abbrev cX12_of : ByteArray := prog_14_method_18_code
def yX12_of : MethodName := ⟨RX12, "of", "(II)I"⟩
abbrev cX12_undo : ByteArray := prog_14_method_19_code
def yX12_undo : MethodName := ⟨RX12, "undo", "()I"⟩
abbrev cX12_redo : ByteArray := prog_14_method_20_code
def yX12_redo : MethodName := ⟨RX12, "redo", "()I"⟩
abbrev cX12_feed : ByteArray := prog_14_method_21_code
def yX12_feed : MethodName := ⟨RX12, "feed", "(I)I"⟩
abbrev cX12_sign : ByteArray := prog_14_method_22_code
def yX12_sign : MethodName := ⟨RX12, "sign", "()I"⟩
abbrev cX12_is : ByteArray := prog_14_method_23_code
def yX12_is : MethodName := ⟨RX12, "is", "(I)Z"⟩
abbrev cX12_codes : ByteArray := prog_14_method_24_code
def yX12_codes : MethodName := ⟨RX12, "codes", "(I)Z"⟩
abbrev cX12_isDigit : ByteArray := prog_14_method_25_code
def yX12_isDigit : MethodName := ⟨RX12, "isDigit", "()Z"⟩
abbrev cX12_nameOf : ByteArray := prog_14_method_26_code
def yX12_nameOf : MethodName := ⟨RX12, "nameOf", "(I)I"⟩
abbrev cX12_isO : ByteArray := prog_14_method_27_code
def yX12_isO : MethodName := ⟨RX12, "isO", "()Z"⟩
abbrev cX12_isP : ByteArray := prog_14_method_28_code
def yX12_isP : MethodName := ⟨RX12, "isP", "()Z"⟩
abbrev cX12_isS : ByteArray := prog_14_method_29_code
def yX12_isS : MethodName := ⟨RX12, "isS", "()Z"⟩
abbrev cX12_isB : ByteArray := prog_14_method_30_code
def yX12_isB : MethodName := ⟨RX12, "isB", "()Z"⟩
abbrev cX12_isA : ByteArray := prog_14_method_31_code
def yX12_isA : MethodName := ⟨RX12, "isA", "()Z"⟩
abbrev cX12_isE : ByteArray := prog_14_method_32_code
def yX12_isE : MethodName := ⟨RX12, "isE", "()Z"⟩
abbrev cX12_isLine : ByteArray := prog_14_method_33_code
def yX12_isLine : MethodName := ⟨RX12, "isLine", "()Z"⟩
abbrev cX12_law : ByteArray := prog_14_method_34_code
def yX12_law : MethodName := ⟨RX12, "law", "()I"⟩
abbrev cX12_both : ByteArray := prog_14_method_35_code
def yX12_both : MethodName := ⟨RX12, "both", "(III)I"⟩
abbrev cX12_worked : ByteArray := prog_14_method_36_code
def yX12_worked : MethodName := ⟨RX12, "worked", "(II)I"⟩
abbrev cX12_isPloughed : ByteArray := prog_14_method_37_code
def yX12_isPloughed : MethodName := ⟨RX12, "isPloughed", "(I)Z"⟩
abbrev cX12_endsAt : ByteArray := prog_14_method_38_code
def yX12_endsAt : MethodName := ⟨RX12, "endsAt", "(II)Z"⟩
abbrev cX12_knots : ByteArray := prog_14_method_39_code
def yX12_knots : MethodName := ⟨RX12, "knots", "(I)I"⟩
abbrev cX12_byLaw : ByteArray := prog_14_method_40_code
def yX12_byLaw : MethodName := ⟨RX12, "byLaw", "(I)I"⟩
abbrev cX12_hoursOf : ByteArray := prog_14_method_41_code
def yX12_hoursOf : MethodName := ⟨RX12, "hoursOf", "(I)I"⟩
abbrev cX12_allHours : ByteArray := prog_14_method_42_code
def yX12_allHours : MethodName := ⟨RX12, "allHours", "()I"⟩
abbrev cX12_hours : ByteArray := prog_14_method_43_code
def yX12_hours : MethodName := ⟨RX12, "hours", "(I)I"⟩
abbrev cX12_held : ByteArray := prog_14_method_44_code
def yX12_held : MethodName := ⟨RX12, "held", "(I)I"⟩
abbrev cX12_word : ByteArray := prog_14_method_45_code
def yX12_word : MethodName := ⟨RX12, "word", "(II)V"⟩
abbrev cX12_keeps : ByteArray := prog_14_method_46_code
def yX12_keeps : MethodName := ⟨RX12, "keeps", "([I)V"⟩
abbrev cX12_again : ByteArray := prog_14_method_47_code
def yX12_again : MethodName := ⟨RX12, "again", "([I)V"⟩
abbrev cX12_looks : ByteArray := prog_14_method_48_code
def yX12_looks : MethodName := ⟨RX12, "looks", "(I)V"⟩
abbrev cX12_wayOf : ByteArray := prog_14_method_49_code
def yX12_wayOf : MethodName := ⟨RX12, "wayOf", "(I)I"⟩
abbrev cX12_along : ByteArray := prog_14_method_50_code
def yX12_along : MethodName := ⟨RX12, "along", "(II)I"⟩
abbrev cX12_way : ByteArray := prog_14_method_51_code
def yX12_way : MethodName := ⟨RX12, "way", "(II)I"⟩
abbrev cX12_reach : ByteArray := prog_14_method_52_code
def yX12_reach : MethodName := ⟨RX12, "reach", "(III)I"⟩
abbrev cX12_wayWithout : ByteArray := prog_14_method_53_code
def yX12_wayWithout : MethodName := ⟨RX12, "wayWithout", "(II)I"⟩
abbrev cX12_needed : ByteArray := prog_14_method_54_code
def yX12_needed : MethodName := ⟨RX12, "needed", "(I)I"⟩
abbrev cX12_longer : ByteArray := prog_14_method_55_code
def yX12_longer : MethodName := ⟨RX12, "longer", "(II)I"⟩
abbrev cX12_goesAll : ByteArray := prog_14_method_56_code
def yX12_goesAll : MethodName := ⟨RX12, "goesAll", "(II)V"⟩
abbrev cX12_trip : ByteArray := prog_14_method_57_code
def yX12_trip : MethodName := ⟨RX12, "trip", "(III)I"⟩
abbrev cX12_rounds : ByteArray := prog_14_method_58_code
def yX12_rounds : MethodName := ⟨RX12, "rounds", "(IIIII)V"⟩
abbrev cX12_round : ByteArray := prog_14_method_59_code
def yX12_round : MethodName := ⟨RX12, "round", "(III)I"⟩
abbrev cX12_isEnough : ByteArray := prog_14_method_60_code
def yX12_isEnough : MethodName := ⟨RX12, "isEnough", "(IIIII)Z"⟩
abbrev cX12_least : ByteArray := prog_14_method_61_code
def yX12_least : MethodName := ⟨RX12, "least", "(III)I"⟩
abbrev cX12_best : ByteArray := prog_14_method_62_code
def yX12_best : MethodName := ⟨RX12, "best", "(I)I"⟩
abbrev cX12_anger : ByteArray := prog_14_method_63_code
def yX12_anger : MethodName := ⟨RX12, "anger", "(I)I"⟩
abbrev cX12_isPeace : ByteArray := prog_14_method_64_code
def yX12_isPeace : MethodName := ⟨RX12, "isPeace", "(I)Z"⟩
abbrev cX12_peace : ByteArray := prog_14_method_65_code
def yX12_peace : MethodName := ⟨RX12, "peace", "(I)I"⟩
abbrev cX12_ring : ByteArray := prog_14_method_66_code
def yX12_ring : MethodName := ⟨RX12, "ring", "(II)I"⟩
abbrev cX12_noSunday : ByteArray := prog_14_method_67_code
def yX12_noSunday : MethodName := ⟨RX12, "noSunday", "(I)I"⟩
abbrev cX12_unlike : ByteArray := prog_14_method_68_code
def yX12_unlike : MethodName := ⟨RX12, "unlike", "(I)I"⟩
abbrev cX12_judge : ByteArray := prog_14_method_69_code
def yX12_judge : MethodName := ⟨RX12, "judge", "(I)I"⟩
abbrev cX12_deed : ByteArray := prog_14_method_70_code
def yX12_deed : MethodName := ⟨RX12, "deed", "(I)V"⟩
abbrev cX12_isDeed : ByteArray := prog_14_method_71_code
def yX12_isDeed : MethodName := ⟨RX12, "isDeed", "(I)Z"⟩
abbrev cX12_byOne : ByteArray := prog_14_method_72_code
def yX12_byOne : MethodName := ⟨RX12, "byOne", "(II)I"⟩
abbrev cX12_byTwo : ByteArray := prog_14_method_73_code
def yX12_byTwo : MethodName := ⟨RX12, "byTwo", "(I)I"⟩
abbrev cX12_sunday : ByteArray := prog_14_method_74_code
def yX12_sunday : MethodName := ⟨RX12, "sunday", "(II)I"⟩
abbrev cX12_wanted : ByteArray := prog_14_method_75_code
def yX12_wanted : MethodName := ⟨RX12, "wanted", "(I)I"⟩
abbrev cX12_answered : ByteArray := prog_14_method_76_code
def yX12_answered : MethodName := ⟨RX12, "answered", "(I)I"⟩
abbrev cX12_byTurns : ByteArray := prog_14_method_77_code
def yX12_byTurns : MethodName := ⟨RX12, "byTurns", "(III)I"⟩
abbrev cX12_drawn : ByteArray := prog_14_method_78_code
def yX12_drawn : MethodName := ⟨RX12, "drawn", "(III)I"⟩
abbrev cX12_goes : ByteArray := prog_14_method_79_code
def yX12_goes : MethodName := ⟨RX12, "goes", "(III)I"⟩
abbrev cX12_night : ByteArray := prog_14_method_80_code
def yX12_night : MethodName := ⟨RX12, "night", "()I"⟩
abbrev cX12_led : ByteArray := prog_14_method_81_code
def yX12_led : MethodName := ⟨RX12, "led", "(I)I"⟩
abbrev cX12_image : ByteArray := prog_14_method_82_code
def yX12_image : MethodName := ⟨RX12, "image", "()I"⟩
abbrev cX12_back : ByteArray := prog_14_method_83_code
def yX12_back : MethodName := ⟨RX12, "back", "()I"⟩
abbrev cX12_above : ByteArray := prog_14_method_84_code
def yX12_above : MethodName := ⟨RX12, "above", "(I)I"⟩
abbrev cX12_ran : ByteArray := prog_14_method_85_code
def yX12_ran : MethodName := ⟨RX12, "ran", "(I)V"⟩
abbrev cX12_leadsBy : ByteArray := prog_14_method_86_code
def yX12_leadsBy : MethodName := ⟨RX12, "leadsBy", "(III)I"⟩
abbrev cX12_thanksBy : ByteArray := prog_14_method_87_code
def yX12_thanksBy : MethodName := ⟨RX12, "thanksBy", "(III)I"⟩
abbrev cX12_sulksBy : ByteArray := prog_14_method_88_code
def yX12_sulksBy : MethodName := ⟨RX12, "sulksBy", "(III)I"⟩
abbrev cX12_tells : ByteArray := prog_14_method_89_code
def yX12_tells : MethodName := ⟨RX12, "tells", "(III)I"⟩
abbrev cX12_body : ByteArray := prog_14_method_90_code
def yX12_body : MethodName := ⟨RX12, "body", "(I)I"⟩
abbrev cX12_act : ByteArray := prog_14_method_91_code
def yX12_act : MethodName := ⟨RX12, "act", "(III)I"⟩
abbrev cX12_trace : ByteArray := prog_14_method_92_code
def yX12_trace : MethodName := ⟨RX12, "trace", "(I)I"⟩
abbrev cX12_keep : ByteArray := prog_14_method_93_code
def yX12_keep : MethodName := ⟨RX12, "keep", "(II)I"⟩
abbrev cX12_row : ByteArray := prog_14_method_94_code
def yX12_row : MethodName := ⟨RX12, "row", "(III)I"⟩
abbrev cX12_isRow : ByteArray := prog_14_method_95_code
def yX12_isRow : MethodName := ⟨RX12, "isRow", "(I)Z"⟩
abbrev cX12_kept : ByteArray := prog_14_method_96_code
def yX12_kept : MethodName := ⟨RX12, "kept", "(IJ)J"⟩
abbrev cX12_put : ByteArray := prog_14_method_97_code
def yX12_put : MethodName := ⟨RX12, "put", "(IIJ)I"⟩
abbrev cX12_element : ByteArray := prog_14_method_98_code
def yX12_element : MethodName := ⟨RX12, "element", "(II)J"⟩
abbrev cX12_shift : ByteArray := prog_14_method_99_code
def yX12_shift : MethodName := ⟨RX12, "shift", "(IIIII)I"⟩
abbrev cX12_taken : ByteArray := prog_14_method_100_code
def yX12_taken : MethodName := ⟨RX12, "taken", "(II)I"⟩
abbrev cX12_count : ByteArray := prog_14_method_101_code
def yX12_count : MethodName := ⟨RX12, "count", "(I)I"⟩
def RJ6 : String := "java/lang/Integer"
def TJ6 : u_T := fun k => match k with
  | _ => ("", "", "", false)
def tyJ6 : Nat → FieldType := fun k => match k with
  | _ => .int
abbrev wsJ60 : List Cond := u_ws RJ6 TJ6 0
theorem nmJ6 : ∀ a, a < 0 → ∀ b, b < 0 → a ≠ b → (TJ6 a).2.1 ≠ (TJ6 b).2.1 := by decide +kernel
theorem tyJ6_ok : ∀ k, k < 0 → parseFieldDescriptor (TJ6 k).2.2.1 = some (tyJ6 k) := by decide +kernel
abbrev cJ6_bitCount_0f7a4 : ByteArray := prog_15_method_49_code
def yJ6_bitCount_0f7a4 : MethodName := ⟨RJ6, "bitCount", "(I)I"⟩
def RJ9 : String := "java/lang/Math"
def TJ9 : u_T := fun k => match k with
  | _ => ("", "", "", false)
def tyJ9 : Nat → FieldType := fun k => match k with
  | _ => .int
abbrev wsJ90 : List Cond := u_ws RJ9 TJ9 0
theorem nmJ9 : ∀ a, a < 0 → ∀ b, b < 0 → a ≠ b → (TJ9 a).2.1 ≠ (TJ9 b).2.1 := by decide +kernel
theorem tyJ9_ok : ∀ k, k < 0 → parseFieldDescriptor (TJ9 k).2.2.1 = some (tyJ9 k) := by decide +kernel
abbrev cJ9_max_7cf53 : ByteArray := prog_16_method_65_code
def yJ9_max_7cf53 : MethodName := ⟨RJ9, "max", "(II)I"⟩
abbrev cJ9_min_7cf53 : ByteArray := prog_16_method_69_code
def yJ9_min_7cf53 : MethodName := ⟨RJ9, "min", "(II)I"⟩
def RJ10 : String := "java/lang/System"
def TJ10 : u_T := fun k => match k with
  | _ => ("", "", "", false)
def tyJ10 : Nat → FieldType := fun k => match k with
  | _ => .int
abbrev wsJ100 : List Cond := u_ws RJ10 TJ10 0
theorem nmJ10 : ∀ a, a < 0 → ∀ b, b < 0 → a ≠ b → (TJ10 a).2.1 ≠ (TJ10 b).2.1 := by decide +kernel
theorem tyJ10_ok : ∀ k, k < 0 → parseFieldDescriptor (TJ10 k).2.2.1 = some (tyJ10 k) := by decide +kernel
def RJ7 : String := "java/util/Arrays"
def TJ7 : u_T := fun k => match k with
  | _ => ("", "", "", false)
def tyJ7 : Nat → FieldType := fun k => match k with
  | _ => .int
abbrev wsJ70 : List Cond := u_ws RJ7 TJ7 0
theorem nmJ7 : ∀ a, a < 0 → ∀ b, b < 0 → a ≠ b → (TJ7 a).2.1 ≠ (TJ7 b).2.1 := by decide +kernel
theorem tyJ7_ok : ∀ k, k < 0 → parseFieldDescriptor (TJ7 k).2.2.1 = some (tyJ7 k) := by decide +kernel
abbrev cJ7_fill_d0a16 : ByteArray := prog_18_method_101_code
def yJ7_fill_d0a16 : MethodName := ⟨RJ7, "fill", "([JJ)V"⟩
abbrev cJ7_fill_53178 : ByteArray := prog_18_method_103_code
def yJ7_fill_53178 : MethodName := ⟨RJ7, "fill", "([II)V"⟩
def RL : String := "RoadsThankedLaw"
abbrev cL_law : ByteArray := code
def yL_law : MethodName := ⟨RL, "law", "([I)Z"⟩
abbrev vwCl : List vw_C := [(RX0, TX0, 7), (RX1, TX1, 7), (RX2, TX2, 4), (RX3, TX3, 11), (RX4, TX4, 6), (RX5, TX5, 6), (RX6, TX6, 6), (RX7, TX7, 4), (RX8, TX8, 6), (RX9, TX9, 10), (RX10, TX10, 5), (RX11, TX11, 11), (RX12, TX12, 56)]
end
section
/-! A SMALL MACHINE over whole numbers: values are references by the cell's number, ints, longs; the store is a function. Its one step is told with what comes behind it (K). -/
abbrev zV : Type := Option Nat ⊕ (Int ⊕ Int)
abbrev zS : Type := (Nat × Nat × List (Option Nat)) ⊕ (Nat × List (Option (Option Nat)))
abbrev zF : Type := Nat → Int → Int
abbrev zH : Type := List zS × zF
abbrev zR : Type := Option zV × zH
abbrev zI : Type := Instr × Nat × Nat × Nat × Nat × Nat × List (Int × Nat)
abbrev zL : Type := List (Option zV)
abbrev zK : Type := Nat → zL → List zV → zH → Option zR
abbrev zCalls : Type := Nat → List zV → zH → Option zR
abbrev zX : Type := List (Nat × (Nat → Int))
def zw (x : Int) : Int := (x + 2147483648) % 4294967296 - 2147483648
def zwl (x : Int) : Int := (x + 9223372036854775808) % 18446744073709551616 - 9223372036854775808
def zin (x : Int) : Prop := -2147483648 ≤ x ∧ x < 2147483648
def zinl (x : Int) : Prop := -9223372036854775808 ≤ x ∧ x < 9223372036854775808
def zand (a b : Int) : Int := (Int32.ofInt a &&& Int32.ofInt b).toInt
def zor (a b : Int) : Int := (Int32.ofInt a ||| Int32.ofInt b).toInt
def zxor (a b : Int) : Int := (Int32.ofInt a ^^^ Int32.ofInt b).toInt
def zshl (a b : Int) : Int := (Int32.ofInt a <<< (Int32.ofInt b &&& 31)).toInt
def zshr (a b : Int) : Int := (Int32.ofInt a >>> (Int32.ofInt b &&& 31)).toInt
def zushr (a b : Int) : Int := ((Int32.ofInt a).toUInt32 >>> ((Int32.ofInt b).toUInt32 &&& Int32.toUInt32 31)).toInt32.toInt
def zdiv (a b : Int) : Int := zw (Int.tdiv a b)
def zrem (a b : Int) : Int := Int.tmod a b
def zandl (a b : Int) : Int := (Int64.ofInt a &&& Int64.ofInt b).toInt
def zorl (a b : Int) : Int := (Int64.ofInt a ||| Int64.ofInt b).toInt
def zshll (a b : Int) : Int := (Int64.ofInt a <<< ((Int32.ofInt b).toInt64 &&& 63)).toInt
def zi2b (a : Int) : Int := (Int32.ofInt a).toInt8.toInt32.toInt
def zi2s (a : Int) : Int := (Int32.ofInt a).toInt16.toInt32.toInt
def zcmpl (x y : Int) : Int := if y < x then 1 else if x = y then 0 else -1
def zmax (x y : Int) : Int := if x < y then y else x
def zmin (x y : Int) : Int := if y < x then y else x
def zset (σ : zF) (k : Nat) (i v : Int) : zF := fun k' i' => if k' = k ∧ i' = i then v else σ k' i'
def zz (σ : zF) (k : Nat) : zF := fun k' i' => if k' = k then 0 else σ k' i'
def zcpy (σ : zF) (k : Nat) (sp : Int) (k2 : Nat) (dp n : Int) : zF := fun k' i' => if k' = k2 ∧ dp ≤ i' ∧ i' < dp + n then σ k (sp + (i' - dp)) else σ k' i'
def zcat : zV → Nat
  | .inr (.inr _) => 2
  | _ => 1
def zwords : List zV → Nat
  | [] => 0
  | v :: r => zcat v + zwords r
def zlook {α : Type} : List (Nat × α) → Nat → Option α
  | [], _ => none
  | q :: r, pc => bif Nat.beq q.1 pc then some q.2 else zlook r pc
def zmask : List Bool → zL → zL
  | b :: m, v :: l => (bif b then v else none) :: zmask m l
  | _, _ => []
def zunl (ls : zL) (a : Nat) : zL := match a with
  | 0 => ls
  | j + 1 => match ls[j]? with
    | some (some (.inr (.inr _))) => ls.set j none
    | _ => ls
def zst1 (ls : zL) (a : Nat) (v : zV) : zL := (zunl ls a).set a (some v)
def zst2 (ls : zL) (a : Nat) (v : zV) : zL := ((zunl ls a).set a (some v)).set (a + 1) none
def zsl : List zV → zL
  | [] => []
  | .inr (.inr x) :: r => some (.inr (.inr x)) :: none :: zsl r
  | v :: r => some v :: zsl r
def zargs (n : Nat) (vs : List zV) : zL := zsl vs ++ List.replicate (n - (zsl vs).length) none
def zli (ls : zL) (a : Nat) (k : Int → Option zR) : Option zR := match ls[a]? with
  | some (some (.inr (.inl x))) => k x
  | _ => none
def zll (ls : zL) (a : Nat) (k : Int → Option zR) : Option zR := match ls[a]? with
  | some (some (.inr (.inr x))) => k x
  | _ => none
def zlr (ls : zL) (a : Nat) (k : Nat → Option zR) : Option zR := match ls[a]? with
  | some (some (.inl (some x))) => k x
  | _ => none
def zI1 (st : List zV) (k : Int → List zV → Option zR) : Option zR := match st with
  | .inr (.inl x) :: r => k x r
  | _ => none
def zI2 (st : List zV) (k : Int → Int → List zV → Option zR) : Option zR := match st with
  | .inr (.inl y) :: .inr (.inl x) :: r => k x y r
  | _ => none
def zJ1 (st : List zV) (k : Int → List zV → Option zR) : Option zR := match st with
  | .inr (.inr x) :: r => k x r
  | _ => none
def zJ2 (st : List zV) (k : Int → Int → List zV → Option zR) : Option zR := match st with
  | .inr (.inr y) :: .inr (.inr x) :: r => k x y r
  | _ => none
def zJI (st : List zV) (k : Int → Int → List zV → Option zR) : Option zR := match st with
  | .inr (.inl y) :: .inr (.inr x) :: r => k x y r
  | _ => none
def zR1 (st : List zV) (k : Nat → List zV → Option zR) : Option zR := match st with
  | .inl (some o) :: r => k o r
  | _ => none
def zV1 (st : List zV) (k : zV → List zV → Option zR) : Option zR := match st with
  | v :: r => bif Nat.beq (zcat v) 1 then k v r else none
  | _ => none
def zV2 (st : List zV) (k : zV → zV → List zV → Option zR) : Option zR := match st with
  | v :: w :: r => bif Nat.beq (zcat v) 1 && Nat.beq (zcat w) 1 then k v w r else none
  | _ => none
/-- an object's field: a number, or a reference -/
def zfld (L : List zS) (o a b : Nat) (kI : Option zR) (kR : Nat → Option zR) : Option zR := match L[o]? with
  | some (.inr (ci, fs)) => bif Nat.beq ci a then (match fs[b]? with
    | some none => kI
    | some (some (some t)) => kR t
    | _ => none) else none
  | _ => none
/-- an int array: of the heap, or a given one -/
def zia (X : zX) (L : List zS) (σ : zF) (o : Nat) (i : Int) (k : Int → Option zR) : Option zR := match L[o]? with
  | some (.inl (0, n, _)) => if 0 ≤ i ∧ i < (n : Int) then k (σ o i) else none
  | some _ => none
  | none => bif Nat.blt o 1000 then none else match X[o - 1000]? with
    | some (n, f) => if 0 ≤ i ∧ i < (n : Int) then k (f i.toNat) else none
    | none => none
def zar (L : List zS) (tag : Nat) (o : Nat) (i : Int) (k : Option zR) : Option zR := match L[o]? with
  | some (.inl (t, n, _)) => bif Nat.beq t tag then (if 0 ≤ i ∧ i < (n : Int) then k else none) else none
  | _ => none
def zaa (L : List zS) (o : Nat) (i : Int) (k : Nat → Option zR) : Option zR := match L[o]? with
  | some (.inl (2, n, ts)) => if 0 ≤ i ∧ i < (n : Int) then (match ts[i.toNat]? with
    | some (some t) => k t
    | _ => none) else none
  | _ => none
def zlen (X : zX) (L : List zS) (o : Nat) (k : Nat → Option zR) : Option zR := match L[o]? with
  | some (.inl (_, n, _)) => k n
  | some _ => none
  | none => bif Nat.blt o 1000 then none else match X[o - 1000]? with
    | some (n, _) => k n
    | none => none
def zcls (L : List zS) (o ci : Nat) : Bool := match L[o]? with
  | some (.inr (c, _)) => Nat.beq c ci
  | _ => false
def zsw (k : Nat → Option zR) (d : Nat) : List (Int × Nat) → Int → Option zR
  | [], _ => k d
  | (v, t) :: r, x => if x = v then k t else zsw k d r x
def ztk : Nat → List zV → List zV → Option (List zV × List zV)
  | 0, acc, st => some (acc, st)
  | n + 1, acc, v :: st => ztk n (v :: acc) st
  | _ + 1, _, [] => none
/-- what a call gives back, the layout as it was -/
def zCV (L : List zS) (o : Option zR) (k : zF → Option zR) : Option zR := match o with
  | some (none, (L', σ)) => if L' = L then k σ else none
  | _ => none
def zCI (L : List zS) (o : Option zR) (k : Int → zF → Option zR) : Option zR := match o with
  | some (some (.inr (.inl i)), (L', σ)) => if L' = L then k i σ else none
  | _ => none
def zCJ (L : List zS) (o : Option zR) (k : Int → zF → Option zR) : Option zR := match o with
  | some (some (.inr (.inr i)), (L', σ)) => if L' = L then k i σ else none
  | _ => none
def zCR (L : List zS) (o : Option zR) (k : Nat → zF → Option zR) : Option zR := match o with
  | some (some (.inl (some i)), (L', σ)) => if L' = L then k i σ else none
  | _ => none
def zC (kind : Nat) (L : List zS) (o : Option zR) (k : List zV → zF → Option zR) : Option zR := match kind with
  | 0 => zCV L o (fun σ => k [] σ)
  | 1 => zCI L o (fun i σ => k [.inr (.inl i)] σ)
  | 2 => zCJ L o (fun i σ => k [.inr (.inr i)] σ)
  | 3 => zCR L o (fun i σ => k [.inl (some i)] σ)
  | _ => none
def zCN (o : Option zR) (k : zH → Option zR) : Option zR := match o with
  | some (none, h) => k h
  | _ => none
def zbr (c : ClassFile.Cond) (x y : Int) (t f : Option zR) : Option zR := match c with
  | .eq => if x = y then t else f
  | .ne => if x = y then f else t
  | .lt => if x < y then t else f
  | .ge => if x < y then f else t
  | .gt => if y < x then t else f
  | .le => if y < x then f else t
def zcon (tab : List (Int × Nat)) (k : Int → Option zR) : Option zR := match tab with
  | (v, _) :: _ => k v
  | _ => none
def zput (L : List zS) (σ : zF) (st : List zV) (a b c : Nat) (k : List zV → zH → Option zR) : Option zR := match st with
  | .inr (.inl x) :: .inl (some o) :: r => (match L[o]? with
    | some (.inr (ci, fs)) => bif Nat.beq ci a && Nat.blt c 2 then (match fs[b]? with
      | some none => bif Nat.beq c 0 then k r (L, zset σ o b x) else if x = 0 ∨ x = 1 then k r (L, zset σ o b x) else none
      | _ => none) else none
    | _ => none)
  | .inl (some t) :: .inl (some o) :: r => (match L[o]? with
    | some (.inr (ci, fs)) => bif Nat.beq ci a && (Nat.beq c 2 && Nat.blt t L.length) then (match fs[b]? with
      | some (some _) => k r (L.set o (.inr (ci, fs.set b (some (some t)))), σ)
      | _ => none) else none
    | _ => none)
  | _ => none
def zast (L : List zS) (σ : zF) (st : List zV) (k : List zV → zH → Option zR) : Option zR := match st with
  | .inl (some t) :: .inr (.inl i) :: .inl (some o) :: r => (match L[o]?, L[t]? with
    | some (.inl (2, n, ts)), some (.inr (7, _)) => if 0 ≤ i ∧ i < (n : Int) then k r (L.set o (.inl (2, n, ts.set i.toNat (some t))), σ) else none
    | _, _ => none)
  | _ => none
def zarc (L : List zS) (σ : zF) (st : List zV) (k : List zV → zF → Option zR) : Option zR := match st with
  | .inr (.inl n) :: .inr (.inl dp) :: .inl (some o2) :: .inr (.inl sp) :: .inl (some o1) :: r => (match L[o1]?, L[o2]? with
    | some (.inl (t1, n1, _)), some (.inl (t2, n2, _)) => bif Nat.beq t1 t2 && Nat.blt t1 2 then
        (if 0 ≤ n ∧ 0 ≤ sp ∧ 0 ≤ dp ∧ sp + n ≤ (n1 : Int) ∧ dp + n ≤ (n2 : Int) then k r (zcpy σ o1 sp o2 dp n) else none) else none
    | _, _ => none)
  | _ => none
/-- the fields of a new object: none a number, some none a reference -/
def zfkOf (q : (Nat → FieldType) × Nat) : List (Option (Option Nat)) := (List.range q.2).map (fun k => match q.1 k with
  | .int => none
  | .boolean => none
  | _ => some none)
def zTys : List ((Nat → FieldType) × Nat) := [(tyX0, 7), (tyX1, 7), (tyX2, 4), (tyX3, 11), (tyX4, 6), (tyX5, 6), (tyX6, 6), (tyX7, 4), (tyX8, 6), (tyX9, 10), (tyX10, 5), (tyX11, 11), (tyX12, 56)]
def znew (L : List zS) (σ : zF) (a : Nat) (k : zH → Option zR) : Option zR := match zTys[a]? with
  | some q => bif Nat.blt L.length 1000 then k (L ++ [.inr (a, zfkOf q)], zz σ L.length) else none
  | none => none
def znwa (L : List zS) (σ : zF) (tag : Nat) (n : Int) (k : zH → Option zR) : Option zR :=
  bif Nat.blt L.length 1000 then (if 0 ≤ n ∧ n ≤ 1000 then k (L ++ [.inl (tag, n.toNat, bif Nat.beq tag 2 then List.replicate n.toNat none else [])], zz σ L.length) else none) else none
/-- ONE STEP, and K behind it -/
def zgo (X : zX) (calls : zCalls) (K : zK) (i : Instr) (len a b c d : Nat) (tab : List (Int × Nat)) (pc : Nat) (ls : zL) (st : List zV) (L : List zS) (σ : zF) : Option zR :=
  match i with
  | .iload _ => zli ls a fun x => K (pc + len) ls (.inr (.inl x) :: st) (L, σ)
  | .iload_n _ => zli ls a fun x => K (pc + len) ls (.inr (.inl x) :: st) (L, σ)
  | .lload _ => zll ls a fun x => K (pc + len) ls (.inr (.inr x) :: st) (L, σ)
  | .lload_n _ => zll ls a fun x => K (pc + len) ls (.inr (.inr x) :: st) (L, σ)
  | .aload _ => zlr ls a fun x => K (pc + len) ls (.inl (some x) :: st) (L, σ)
  | .aload_n _ => zlr ls a fun x => K (pc + len) ls (.inl (some x) :: st) (L, σ)
  | .istore _ => zI1 st fun x r => K (pc + len) (zst1 ls a (.inr (.inl x))) r (L, σ)
  | .istore_n _ => zI1 st fun x r => K (pc + len) (zst1 ls a (.inr (.inl x))) r (L, σ)
  | .lstore _ => zJ1 st fun x r => K (pc + len) (zst2 ls a (.inr (.inr x))) r (L, σ)
  | .lstore_n _ => zJ1 st fun x r => K (pc + len) (zst2 ls a (.inr (.inr x))) r (L, σ)
  | .astore _ => zR1 st fun x r => K (pc + len) (zst1 ls a (.inl (some x))) r (L, σ)
  | .astore_n _ => zR1 st fun x r => K (pc + len) (zst1 ls a (.inl (some x))) r (L, σ)
  | .iinc _ _ => zli ls a fun x => zcon tab fun v => K (pc + len) (zst1 ls a (.inr (.inl (zw (x + v))))) st (L, σ)
  | .iconst _ => zcon tab fun v => K (pc + len) ls (.inr (.inl v) :: st) (L, σ)
  | .bipush _ => zcon tab fun v => K (pc + len) ls (.inr (.inl v) :: st) (L, σ)
  | .sipush _ => zcon tab fun v => K (pc + len) ls (.inr (.inl v) :: st) (L, σ)
  | .ldc _ => zcon tab fun v => K (pc + len) ls (.inr (.inl v) :: st) (L, σ)
  | .ldc_w _ => zcon tab fun v => K (pc + len) ls (.inr (.inl v) :: st) (L, σ)
  | .lconst _ => zcon tab fun v => K (pc + len) ls (.inr (.inr v) :: st) (L, σ)
  | .ldc2_w _ => zcon tab fun v => K (pc + len) ls (.inr (.inr v) :: st) (L, σ)
  | .iadd => zI2 st fun x y r => K (pc + len) ls (.inr (.inl (zw (x + y))) :: r) (L, σ)
  | .isub => zI2 st fun x y r => K (pc + len) ls (.inr (.inl (zw (x - y))) :: r) (L, σ)
  | .imul => zI2 st fun x y r => K (pc + len) ls (.inr (.inl (zw (x * y))) :: r) (L, σ)
  | .idiv => zI2 st fun x y r => if y = 0 then none else K (pc + len) ls (.inr (.inl (zdiv x y)) :: r) (L, σ)
  | .irem => zI2 st fun x y r => if y = 0 then none else K (pc + len) ls (.inr (.inl (zrem x y)) :: r) (L, σ)
  | .ineg => zI1 st fun x r => K (pc + len) ls (.inr (.inl (zw (-x))) :: r) (L, σ)
  | .iand => zI2 st fun x y r => K (pc + len) ls (.inr (.inl (zand x y)) :: r) (L, σ)
  | .ior => zI2 st fun x y r => K (pc + len) ls (.inr (.inl (zor x y)) :: r) (L, σ)
  | .ixor => zI2 st fun x y r => K (pc + len) ls (.inr (.inl (zxor x y)) :: r) (L, σ)
  | .ishl => zI2 st fun x y r => K (pc + len) ls (.inr (.inl (zshl x y)) :: r) (L, σ)
  | .ishr => zI2 st fun x y r => K (pc + len) ls (.inr (.inl (zshr x y)) :: r) (L, σ)
  | .iushr => zI2 st fun x y r => K (pc + len) ls (.inr (.inl (zushr x y)) :: r) (L, σ)
  | .ladd => zJ2 st fun x y r => K (pc + len) ls (.inr (.inr (zwl (x + y))) :: r) (L, σ)
  | .lmul => zJ2 st fun x y r => K (pc + len) ls (.inr (.inr (zwl (x * y))) :: r) (L, σ)
  | .land => zJ2 st fun x y r => K (pc + len) ls (.inr (.inr (zandl x y)) :: r) (L, σ)
  | .lor => zJ2 st fun x y r => K (pc + len) ls (.inr (.inr (zorl x y)) :: r) (L, σ)
  | .lshl => zJI st fun x y r => K (pc + len) ls (.inr (.inr (zshll x y)) :: r) (L, σ)
  | .i2l => zI1 st fun x r => K (pc + len) ls (.inr (.inr x) :: r) (L, σ)
  | .l2i => zJ1 st fun x r => K (pc + len) ls (.inr (.inl (zw x)) :: r) (L, σ)
  | .i2b => zI1 st fun x r => K (pc + len) ls (.inr (.inl (zi2b x)) :: r) (L, σ)
  | .i2s => zI1 st fun x r => K (pc + len) ls (.inr (.inl (zi2s x)) :: r) (L, σ)
  | .lcmp => zJ2 st fun x y r => K (pc + len) ls (.inr (.inl (zcmpl x y)) :: r) (L, σ)
  | .dup => zV1 st fun v r => K (pc + len) ls (v :: v :: r) (L, σ)
  | .pop => zV1 st fun _ r => K (pc + len) ls r (L, σ)
  | .dup_x1 => zV2 st fun v w r => K (pc + len) ls (v :: w :: v :: r) (L, σ)
  | .dup2 => zV2 st fun v w r => K (pc + len) ls (v :: w :: v :: w :: r) (L, σ)
  | .goto _ => K a ls st (L, σ)
  | .if_icmp q _ => zI2 st fun x y r => zbr q x y (K a ls r (L, σ)) (K (pc + len) ls r (L, σ))
  | .ifCond q _ => zI1 st fun x r => zbr q x 0 (K a ls r (L, σ)) (K (pc + len) ls r (L, σ))
  | .tableswitch _ _ _ _ => zI1 st fun x r => zsw (fun t => K t ls r (L, σ)) d tab x
  | .lookupswitch _ _ => zI1 st fun x r => zsw (fun t => K t ls r (L, σ)) d tab x
  | .getfield _ => zR1 st fun o r => zfld L o a b (K (pc + len) ls (.inr (.inl (σ o b)) :: r) (L, σ)) (fun t => K (pc + len) ls (.inl (some t) :: r) (L, σ))
  | .putfield _ => zput L σ st a b c fun r h => K (pc + len) ls r h
  | .getstatic _ => K (pc + len) ls (.inl (some b) :: st) (L, σ)
  | .iaload => zI1 st fun i r => zR1 r fun o r => zia X L σ o i fun v => K (pc + len) ls (.inr (.inl v) :: r) (L, σ)
  | .iastore => zI1 st fun x r => zI1 r fun i r => zR1 r fun o r => zar L 0 o i (K (pc + len) ls r (L, zset σ o i x))
  | .laload => zI1 st fun i r => zR1 r fun o r => zar L 1 o i (K (pc + len) ls (.inr (.inr (σ o i)) :: r) (L, σ))
  | .lastore => zJ1 st fun x r => zI1 r fun i r => zR1 r fun o r => zar L 1 o i (K (pc + len) ls r (L, zset σ o i x))
  | .aaload => zI1 st fun i r => zR1 r fun o r => zaa L o i fun t => K (pc + len) ls (.inl (some t) :: r) (L, σ)
  | .aastore => zast L σ st fun r h => K (pc + len) ls r h
  | .arraylength => zR1 st fun o r => zlen X L o fun n => K (pc + len) ls (.inr (.inl n) :: r) (L, σ)
  | .newarray _ => zI1 st fun n r => bif Nat.blt a 2 then znwa L σ a n fun h => K (pc + len) ls (.inl (some L.length) :: r) h else none
  | .anewarray _ => zI1 st fun n r => znwa L σ 2 n fun h => K (pc + len) ls (.inl (some L.length) :: r) h
  | .new _ => znew L σ a fun h => K (pc + len) ls (.inl (some L.length) :: st) h
  | .invokevirtual _ => match ztk b [] st with
    | some (vs, r) => zR1 r fun o r => bif zcls L o d && Nat.ble (zwords r) 8 then zC c L (calls a (.inl (some o) :: vs) (L, σ)) fun v σ' => K (pc + len) ls (v ++ r) (L, σ') else none
    | none => none
  | .invokestatic _ => match a with
    | 1001 => zI2 st fun x y r => bif Nat.ble (zwords r) 8 then K (pc + len) ls (.inr (.inl (zmax x y)) :: r) (L, σ) else none
    | 1002 => zI2 st fun x y r => bif Nat.ble (zwords r) 8 then K (pc + len) ls (.inr (.inl (zmin x y)) :: r) (L, σ) else none
    | 1003 => zarc L σ st fun r σ' => bif Nat.ble (zwords r) 8 then K (pc + len) ls r (L, σ') else none
    | _ => match ztk b [] st with
      | some (vs, r) => bif Nat.ble (zwords r) 8 then zC c L (calls a vs (L, σ)) fun v σ' => K (pc + len) ls (v ++ r) (L, σ') else none
      | none => none
  | .invokespecial _ => match a with
    | 1000 => zR1 st fun _ r => bif Nat.ble (zwords r) 8 then K (pc + len) ls r (L, σ) else none
    | _ => match ztk b [] st with
      | some (vs, r) => zR1 r fun o r => bif zcls L o d && Nat.ble (zwords r) 8 then zCN (calls a (.inl (some o) :: vs) (L, σ)) fun h => K (pc + len) ls r h else none
      | none => none
  | .ireturn => match st with
    | [.inr (.inl x)] => bif Nat.beq a 0 then some (some (.inr (.inl x)), (L, σ)) else if x = 0 ∨ x = 1 then some (some (.inr (.inl x)), (L, σ)) else none
    | _ => none
  | .lreturn => match st with
    | [.inr (.inr x)] => some (some (.inr (.inr x)), (L, σ))
    | _ => none
  | .areturn => match st with
    | [.inl (some x)] => some (some (.inl (some x)), (L, σ))
    | _ => none
  | .return_ => match st with
    | [] => some (none, (L, σ))
    | _ => none
  | _ => none
def zstp (X : zX) (calls : zCalls) (C : List (Nat × zI)) (K : zK) : zK := fun pc ls st h => match zlook C pc with
  | some (i, len, a, b, c, d, tab) => zgo X calls K i len a b c d tab pc ls st h.1 h.2
  | none => none
abbrev zCut : Type := List (Nat × List Bool)
def zcm (cuts : zCut) (pc : Nat) (ls : zL) : zL := match zlook cuts pc with
  | none => ls
  | some m => zmask m ls
def zcutK (cuts : zCut) (K : zK) : zK := fun pc ls st h => K pc (zcm cuts pc ls) st h
def zrun (X : zX) (calls : zCalls) (C : List (Nat × zI)) (cuts : zCut) : Nat → zK
  | 0 => fun _ _ _ _ => none
  | n + 1 => zstp X calls C (zcutK cuts (zrun X calls C cuts n))
noncomputable def zlim {α : Type} (f : Nat → Option α) : Option α := @dite _ (∃ n, (f n).isSome = true) (Classical.propDecidable _) (fun h => f (Classical.choose h)) (fun _ => none)
noncomputable def zrunL (X : zX) (calls : zCalls) (C : List (Nat × zI)) (cuts : zCut) : zK := fun pc ls st h => zlim (fun n => zrun X calls C cuts n pc ls st h)
abbrev zMt : Type := MethodName × ByteArray × Nat × Option FieldType × List (Nat × zI) × zCut
noncomputable def zexec (X : zX) (MT : List zMt) : Nat → zCalls
  | 0 => fun _ _ _ => none
  | d + 1 => fun id vs h => match MT[id]? with
    | some (_, _, n, _, C, cuts) => bif Nat.ble (zsl vs).length n then zrunL X (zexec X MT d) C cuts 0 (zcm cuts 0 (zargs n vs)) [] h else none
    | none => none
noncomputable def zwalk (X : zX) (calls : zCalls) (C : List (Nat × zI)) (cuts : zCut) : Nat → zK
  | 0 => zrunL X calls C cuts
  | k + 1 => zstp X calls C (fun pc ls st h => match zlook cuts pc with
    | none => zwalk X calls C cuts k pc ls st h
    | some m => zrunL X calls C cuts pc (zmask m ls) st h)
/-- layouts grow -/
def zsz : zS → Nat
  | .inl (_, n, _) => n
  | .inr (_, fs) => fs.length
def zslots (L : List zS) : Nat := (L.map zsz).sum
def zle (L L' : List zS) : Prop := L.length ≤ L'.length ∧ zslots L ≤ zslots L'
theorem zle_rf (L : List zS) : zle L L := ⟨Nat.le_refl _, Nat.le_refl _⟩
theorem zle_tr {L L' L'' : List zS} (h : zle L L') (h2 : zle L' L'') : zle L L'' := ⟨Nat.le_trans h.1 h2.1, Nat.le_trans h.2 h2.2⟩
theorem zslots_app (L : List zS) (q : zS) : zslots (L ++ [q]) = zslots L + zsz q := by simp [zslots]
theorem zle_app (L : List zS) (q : zS) : zle L (L ++ [q]) := ⟨by simp, by rw [zslots_app]; omega⟩
theorem zslots_set : ∀ (L : List zS) (k : Nat) (q q' : zS), L[k]? = some q → zsz q' = zsz q → zslots (L.set k q') = zslots L
  | [], _, _, _, h, _ => by simp at h
  | x :: L, 0, q, q', h, e => by
    simp at h
    subst h
    simp [zslots, e]
  | x :: L, k + 1, q, q', h, e => by
    have := zslots_set L k q q' (by simpa using h) e
    simp [zslots] at this ⊢
    exact this
theorem zle_set {L : List zS} {k : Nat} {q q' : zS} (h : L[k]? = some q) (e : zsz q' = zsz q) : zle L (L.set k q') := ⟨by simp, by rw [zslots_set L k q q' h e]; exact Nat.le_refl _⟩
end
section
/-! the run without a count of steps: it holds the equation of one step; a walk to the next cuts is the run -/
/-- what a step does with what comes behind it: nothing, or it goes on at one place -/
def zT (L0 : List zS) (f : zK → Option zR) : Prop := (∃ r : Option zR, (∀ v, r = some v → zle L0 v.2.1) ∧ ∀ K, f K = r) ∨ ∃ pc ls st h, zle L0 h.1 ∧ ∀ K, f K = K pc ls st h
def zCm (calls : zCalls) : Prop := ∀ id vs h v, calls id vs h = some v → zle h.1 v.2.1
section
variable {L0 : List zS}
theorem zT_none : zT L0 (fun _ => none) := Or.inl ⟨none, (fun _ h => by cases h), fun _ => rfl⟩
theorem zT_c (r : Option zR) (h : ∀ v, r = some v → zle L0 v.2.1) : zT L0 (fun _ => r) := Or.inl ⟨r, h, fun _ => rfl⟩
theorem zT_K (pc : Nat) (ls : zL) (st : List zV) (h : zH) (e : zle L0 h.1) : zT L0 (fun K => K pc ls st h) := Or.inr ⟨pc, ls, st, h, e, fun _ => rfl⟩
theorem zT_ite {p : Prop} [Decidable p] {f g : zK → Option zR} (hf : zT L0 f) (hg : zT L0 g) : zT L0 (fun K => if p then f K else g K) := by
  by_cases h : p
  · simp only [if_pos h]; exact hf
  · simp only [if_neg h]; exact hg
theorem zT_bif {p : Bool} {f g : zK → Option zR} (hf : zT L0 f) (hg : zT L0 g) : zT L0 (fun K => bif p then f K else g K) := by
  cases p
  · exact hg
  · exact hf
theorem zT_li {ls : zL} {a : Nat} {k : zK → Int → Option zR} (h : ∀ x, zT L0 (fun K => k K x)) : zT L0 (fun K => zli ls a (k K)) := by
  unfold zli
  rcases ls[a]? with _ | _ | _ | x | x
  · exact zT_none
  · exact zT_none
  · exact zT_none
  · exact h x
  · exact zT_none
theorem zT_ll {ls : zL} {a : Nat} {k : zK → Int → Option zR} (h : ∀ x, zT L0 (fun K => k K x)) : zT L0 (fun K => zll ls a (k K)) := by
  unfold zll
  rcases ls[a]? with _ | _ | _ | x | x
  · exact zT_none
  · exact zT_none
  · exact zT_none
  · exact zT_none
  · exact h x
theorem zT_lr {ls : zL} {a : Nat} {k : zK → Nat → Option zR} (h : ∀ x, zT L0 (fun K => k K x)) : zT L0 (fun K => zlr ls a (k K)) := by
  unfold zlr
  rcases ls[a]? with _ | _ | (_ | x) | x | x
  · exact zT_none
  · exact zT_none
  · exact zT_none
  · exact h x
  · exact zT_none
  · exact zT_none
theorem zT_I1 {st : List zV} {k : zK → Int → List zV → Option zR} (h : ∀ x r, zT L0 (fun K => k K x r)) : zT L0 (fun K => zI1 st (k K)) := by
  unfold zI1
  rcases st with _ | ⟨_ | x | x, r⟩
  · exact zT_none
  · exact zT_none
  · exact h x r
  · exact zT_none
theorem zT_J1 {st : List zV} {k : zK → Int → List zV → Option zR} (h : ∀ x r, zT L0 (fun K => k K x r)) : zT L0 (fun K => zJ1 st (k K)) := by
  unfold zJ1
  rcases st with _ | ⟨_ | x | x, r⟩
  · exact zT_none
  · exact zT_none
  · exact zT_none
  · exact h x r
theorem zT_R1 {st : List zV} {k : zK → Nat → List zV → Option zR} (h : ∀ x r, zT L0 (fun K => k K x r)) : zT L0 (fun K => zR1 st (k K)) := by
  unfold zR1
  rcases st with _ | ⟨(_ | x) | x | x, r⟩
  · exact zT_none
  · exact zT_none
  · exact h x r
  · exact zT_none
  · exact zT_none
theorem zT_I2 {st : List zV} {k : zK → Int → Int → List zV → Option zR} (h : ∀ x y r, zT L0 (fun K => k K x y r)) : zT L0 (fun K => zI2 st (k K)) := by
  unfold zI2
  rcases st with _ | ⟨_ | x | x, _ | ⟨_ | y | y, r⟩⟩
  all_goals first | exact zT_none | exact h _ _ _
theorem zT_J2 {st : List zV} {k : zK → Int → Int → List zV → Option zR} (h : ∀ x y r, zT L0 (fun K => k K x y r)) : zT L0 (fun K => zJ2 st (k K)) := by
  unfold zJ2
  rcases st with _ | ⟨_ | x | x, _ | ⟨_ | y | y, r⟩⟩
  all_goals first | exact zT_none | exact h _ _ _
theorem zT_JI {st : List zV} {k : zK → Int → Int → List zV → Option zR} (h : ∀ x y r, zT L0 (fun K => k K x y r)) : zT L0 (fun K => zJI st (k K)) := by
  unfold zJI
  rcases st with _ | ⟨_ | x | x, _ | ⟨_ | y | y, r⟩⟩
  all_goals first | exact zT_none | exact h _ _ _
theorem zT_V1 {st : List zV} {k : zK → zV → List zV → Option zR} (h : ∀ x r, zT L0 (fun K => k K x r)) : zT L0 (fun K => zV1 st (k K)) := by
  unfold zV1
  rcases st with _ | ⟨v, r⟩
  · exact zT_none
  · exact zT_bif (h v r) zT_none
theorem zT_V2 {st : List zV} {k : zK → zV → zV → List zV → Option zR} (h : ∀ x y r, zT L0 (fun K => k K x y r)) : zT L0 (fun K => zV2 st (k K)) := by
  unfold zV2
  rcases st with _ | ⟨v, _ | ⟨w, r⟩⟩
  · exact zT_none
  · exact zT_none
  · exact zT_bif (h v w r) zT_none
theorem zT_con {tab : List (Int × Nat)} {k : zK → Int → Option zR} (h : ∀ x, zT L0 (fun K => k K x)) : zT L0 (fun K => zcon tab (k K)) := by
  unfold zcon
  rcases tab with _ | ⟨q, r⟩
  · exact zT_none
  · exact h q.1
theorem zT_br {q : ClassFile.Cond} {x y : Int} {f g : zK → Option zR} (hf : zT L0 f) (hg : zT L0 g) : zT L0 (fun K => zbr q x y (f K) (g K)) := by
  unfold zbr
  cases q
  · exact zT_ite hf hg
  · exact zT_ite hg hf
  · exact zT_ite hf hg
  · exact zT_ite hg hf
  · exact zT_ite hf hg
  · exact zT_ite hg hf
theorem zT_sw {k : zK → Nat → Option zR} (h : ∀ t, zT L0 (fun K => k K t)) (d : Nat) (x : Int) : ∀ tab, zT L0 (fun K => zsw (k K) d tab x)
  | [] => h d
  | (v, t) :: r => by
    simp only [zsw]
    exact zT_ite (h t) (zT_sw h d x r)
theorem zT_fld {L : List zS} {o a b : Nat} {kI : zK → Option zR} {kR : zK → Nat → Option zR} (h1 : zT L0 kI) (h2 : ∀ t, zT L0 (fun K => kR K t)) : zT L0 (fun K => zfld L o a b (kI K) (kR K)) := by
  unfold zfld
  rcases L[o]? with _ | _ | ⟨ci, fs⟩
  · exact zT_none
  · exact zT_none
  · refine zT_bif ?_ zT_none
    rcases fs[b]? with _ | _ | _ | t
    · exact zT_none
    · exact h1
    · exact zT_none
    · exact h2 t
theorem zT_ia {X : zX} {L : List zS} {σ : zF} {o : Nat} {i : Int} {k : zK → Int → Option zR} (h : ∀ x, zT L0 (fun K => k K x)) : zT L0 (fun K => zia X L σ o i (k K)) := by
  unfold zia
  rcases L[o]? with _ | ⟨_ | t, n, ts⟩ | q
  · refine zT_bif zT_none ?_
    rcases X[o - 1000]? with _ | ⟨n, f⟩
    · exact zT_none
    · exact zT_ite (h _) zT_none
  · exact zT_ite (h _) zT_none
  · exact zT_none
  · exact zT_none
theorem zT_ar {L : List zS} {tag o : Nat} {i : Int} {k : zK → Option zR} (h : zT L0 k) : zT L0 (fun K => zar L tag o i (k K)) := by
  unfold zar
  rcases L[o]? with _ | ⟨t, n, ts⟩ | q
  · exact zT_none
  · exact zT_bif (zT_ite h zT_none) zT_none
  · exact zT_none
theorem zT_aa {L : List zS} {o : Nat} {i : Int} {k : zK → Nat → Option zR} (h : ∀ t, zT L0 (fun K => k K t)) : zT L0 (fun K => zaa L o i (k K)) := by
  unfold zaa
  rcases L[o]? with _ | ⟨_ | _ | _ | t, n, ts⟩ | q
  all_goals try exact zT_none
  refine zT_ite ?_ zT_none
  rcases ts[i.toNat]? with _ | _ | t
  · exact zT_none
  · exact zT_none
  · exact h t
theorem zT_len {X : zX} {L : List zS} {o : Nat} {k : zK → Nat → Option zR} (h : ∀ t, zT L0 (fun K => k K t)) : zT L0 (fun K => zlen X L o (k K)) := by
  unfold zlen
  rcases L[o]? with _ | ⟨t, n, ts⟩ | q
  · refine zT_bif zT_none ?_
    rcases X[o - 1000]? with _ | ⟨n, f⟩
    · exact zT_none
    · exact h n
  · exact h n
  · exact zT_none
theorem zT_put {L : List zS} {σ : zF} {st : List zV} {a b c : Nat} {k : zK → List zV → zH → Option zR} (h : ∀ r q, zle L q.1 → zT L0 (fun K => k K r q)) : zT L0 (fun K => zput L σ st a b c (k K)) := by
  unfold zput
  rcases st with _ | ⟨(_ | t) | x | x, _ | ⟨(_ | o) | y | y, r⟩⟩
  all_goals try exact zT_none
  · dsimp only
    rcases hL : L[o]? with _ | _ | ⟨ci, fs⟩
    · exact zT_none
    · exact zT_none
    · dsimp only
      refine zT_bif ?_ zT_none
      rcases fs[b]? with _ | _ | q
      · exact zT_none
      · exact zT_none
      · exact h _ _ (zle_set hL (by simp [zsz]))
  · dsimp only
    rcases L[o]? with _ | _ | ⟨ci, fs⟩
    · exact zT_none
    · exact zT_none
    · dsimp only
      refine zT_bif ?_ zT_none
      rcases fs[b]? with _ | _ | q
      · exact zT_none
      · exact zT_bif (h _ _ (zle_rf L)) (zT_ite (h _ _ (zle_rf L)) zT_none)
      · exact zT_none
theorem zT_ast {L : List zS} {σ : zF} {st : List zV} {k : zK → List zV → zH → Option zR} (h : ∀ r q, zle L q.1 → zT L0 (fun K => k K r q)) : zT L0 (fun K => zast L σ st (k K)) := by
  unfold zast
  split
  · split
    · next h1 h2 => exact zT_ite (h _ _ (zle_set h1 rfl)) zT_none
    · exact zT_none
  · exact zT_none
theorem zT_arc {L : List zS} {σ : zF} {st : List zV} {k : zK → List zV → zF → Option zR} (h : ∀ r q, zT L0 (fun K => k K r q)) : zT L0 (fun K => zarc L σ st (k K)) := by
  unfold zarc
  split
  · split
    · exact zT_bif (zT_ite (h _ _) zT_none) zT_none
    · exact zT_none
  · exact zT_none
theorem zT_new {L : List zS} {σ : zF} {a : Nat} {k : zK → zH → Option zR} (h : ∀ q, zle L q.1 → zT L0 (fun K => k K q)) : zT L0 (fun K => znew L σ a (k K)) := by
  unfold znew
  rcases zTys[a]? with _ | q
  · exact zT_none
  · exact zT_bif (h _ (zle_app _ _)) zT_none
theorem zT_nwa {L : List zS} {σ : zF} {tag : Nat} {n : Int} {k : zK → zH → Option zR} (h : ∀ q, zle L q.1 → zT L0 (fun K => k K q)) : zT L0 (fun K => znwa L σ tag n (k K)) := by
  unfold znwa
  exact zT_bif (zT_ite (h _ (zle_app _ _)) zT_none) zT_none
theorem zT_CN {L : List zS} {o : Option zR} {k : zK → zH → Option zR} (ho : ∀ v, o = some v → zle L v.2.1) (h : ∀ q, zle L q.1 → zT L0 (fun K => k K q)) : zT L0 (fun K => zCN o (k K)) := by
  unfold zCN
  rcases o with _ | ⟨_ | v, q⟩
  · exact zT_none
  · exact h q (ho _ rfl)
  · exact zT_none
theorem zT_C {kind : Nat} {L : List zS} {o : Option zR} {k : zK → List zV → zF → Option zR} (h : ∀ v q, zT L0 (fun K => k K v q)) : zT L0 (fun K => zC kind L o (k K)) := by
  unfold zC
  split
  · unfold zCV
    rcases o with _ | ⟨_ | v, L', σ⟩
    · exact zT_none
    · exact zT_ite (h _ _) zT_none
    · exact zT_none
  · unfold zCI
    rcases o with _ | ⟨_ | _ | v | v, L', σ⟩
    all_goals try exact zT_none
    exact zT_ite (h _ _) zT_none
  · unfold zCJ
    rcases o with _ | ⟨_ | _ | v | v, L', σ⟩
    all_goals try exact zT_none
    exact zT_ite (h _ _) zT_none
  · unfold zCR
    rcases o with _ | ⟨_ | (_ | v) | v | v, L', σ⟩
    all_goals try exact zT_none
    exact zT_ite (h _ _) zT_none
  · exact zT_none
theorem zgo_T (X : zX) (calls : zCalls) (hc : zCm calls) (i : Instr) (len a b c d : Nat) (tab : List (Int × Nat)) (pc : Nat) (ls : zL) (st : List zV) (L : List zS) (σ : zF) : zT L (fun K => zgo X calls K i len a b c d tab pc ls st L σ) := by
  cases i
  case iload => exact zT_li fun x => zT_K _ _ _ _ (zle_rf L)
  case iload_n => exact zT_li fun x => zT_K _ _ _ _ (zle_rf L)
  case lload => exact zT_ll fun x => zT_K _ _ _ _ (zle_rf L)
  case lload_n => exact zT_ll fun x => zT_K _ _ _ _ (zle_rf L)
  case aload => exact zT_lr fun x => zT_K _ _ _ _ (zle_rf L)
  case aload_n => exact zT_lr fun x => zT_K _ _ _ _ (zle_rf L)
  case istore => exact zT_I1 fun x r => zT_K _ _ _ _ (zle_rf L)
  case istore_n => exact zT_I1 fun x r => zT_K _ _ _ _ (zle_rf L)
  case lstore => exact zT_J1 fun x r => zT_K _ _ _ _ (zle_rf L)
  case lstore_n => exact zT_J1 fun x r => zT_K _ _ _ _ (zle_rf L)
  case astore => exact zT_R1 fun x r => zT_K _ _ _ _ (zle_rf L)
  case astore_n => exact zT_R1 fun x r => zT_K _ _ _ _ (zle_rf L)
  case iinc => exact zT_li fun x => zT_con fun v => zT_K _ _ _ _ (zle_rf L)
  case iconst => exact zT_con fun v => zT_K _ _ _ _ (zle_rf L)
  case bipush => exact zT_con fun v => zT_K _ _ _ _ (zle_rf L)
  case sipush => exact zT_con fun v => zT_K _ _ _ _ (zle_rf L)
  case ldc => exact zT_con fun v => zT_K _ _ _ _ (zle_rf L)
  case ldc_w => exact zT_con fun v => zT_K _ _ _ _ (zle_rf L)
  case lconst => exact zT_con fun v => zT_K _ _ _ _ (zle_rf L)
  case ldc2_w => exact zT_con fun v => zT_K _ _ _ _ (zle_rf L)
  case iadd => exact zT_I2 fun x y r => zT_K _ _ _ _ (zle_rf L)
  case isub => exact zT_I2 fun x y r => zT_K _ _ _ _ (zle_rf L)
  case imul => exact zT_I2 fun x y r => zT_K _ _ _ _ (zle_rf L)
  case idiv => exact zT_I2 fun x y r => zT_ite zT_none (zT_K _ _ _ _ (zle_rf L))
  case irem => exact zT_I2 fun x y r => zT_ite zT_none (zT_K _ _ _ _ (zle_rf L))
  case ineg => exact zT_I1 fun x r => zT_K _ _ _ _ (zle_rf L)
  case iand => exact zT_I2 fun x y r => zT_K _ _ _ _ (zle_rf L)
  case ior => exact zT_I2 fun x y r => zT_K _ _ _ _ (zle_rf L)
  case ixor => exact zT_I2 fun x y r => zT_K _ _ _ _ (zle_rf L)
  case ishl => exact zT_I2 fun x y r => zT_K _ _ _ _ (zle_rf L)
  case ishr => exact zT_I2 fun x y r => zT_K _ _ _ _ (zle_rf L)
  case iushr => exact zT_I2 fun x y r => zT_K _ _ _ _ (zle_rf L)
  case ladd => exact zT_J2 fun x y r => zT_K _ _ _ _ (zle_rf L)
  case lmul => exact zT_J2 fun x y r => zT_K _ _ _ _ (zle_rf L)
  case land => exact zT_J2 fun x y r => zT_K _ _ _ _ (zle_rf L)
  case lor => exact zT_J2 fun x y r => zT_K _ _ _ _ (zle_rf L)
  case lshl => exact zT_JI fun x y r => zT_K _ _ _ _ (zle_rf L)
  case i2l => exact zT_I1 fun x r => zT_K _ _ _ _ (zle_rf L)
  case l2i => exact zT_J1 fun x r => zT_K _ _ _ _ (zle_rf L)
  case i2b => exact zT_I1 fun x r => zT_K _ _ _ _ (zle_rf L)
  case i2s => exact zT_I1 fun x r => zT_K _ _ _ _ (zle_rf L)
  case lcmp => exact zT_J2 fun x y r => zT_K _ _ _ _ (zle_rf L)
  case dup => exact zT_V1 fun v r => zT_K _ _ _ _ (zle_rf L)
  case pop => exact zT_V1 fun v r => zT_K _ _ _ _ (zle_rf L)
  case dup_x1 => exact zT_V2 fun v w r => zT_K _ _ _ _ (zle_rf L)
  case dup2 => exact zT_V2 fun v w r => zT_K _ _ _ _ (zle_rf L)
  case goto => exact zT_K _ _ _ _ (zle_rf L)
  case if_icmp => exact zT_I2 fun x y r => zT_br (zT_K _ _ _ _ (zle_rf L)) (zT_K _ _ _ _ (zle_rf L))
  case ifCond => exact zT_I1 fun x r => zT_br (zT_K _ _ _ _ (zle_rf L)) (zT_K _ _ _ _ (zle_rf L))
  case tableswitch => exact zT_I1 fun x r => zT_sw (fun t => zT_K _ _ _ _ (zle_rf L)) _ _ _
  case lookupswitch => exact zT_I1 fun x r => zT_sw (fun t => zT_K _ _ _ _ (zle_rf L)) _ _ _
  case getfield => exact zT_R1 fun o r => zT_fld (zT_K _ _ _ _ (zle_rf L)) fun t => zT_K _ _ _ _ (zle_rf L)
  case putfield => exact zT_put fun r h e => zT_K _ _ _ _ e
  case getstatic => exact zT_K _ _ _ _ (zle_rf L)
  case iaload => exact zT_I1 fun i r => zT_R1 fun o r => zT_ia fun v => zT_K _ _ _ _ (zle_rf L)
  case iastore => exact zT_I1 fun x r => zT_I1 fun i r => zT_R1 fun o r => zT_ar (zT_K _ _ _ _ (zle_rf L))
  case laload => exact zT_I1 fun i r => zT_R1 fun o r => zT_ar (zT_K _ _ _ _ (zle_rf L))
  case lastore => exact zT_J1 fun x r => zT_I1 fun i r => zT_R1 fun o r => zT_ar (zT_K _ _ _ _ (zle_rf L))
  case aaload => exact zT_I1 fun i r => zT_R1 fun o r => zT_aa fun t => zT_K _ _ _ _ (zle_rf L)
  case aastore => exact zT_ast fun r h e => zT_K _ _ _ _ e
  case arraylength => exact zT_R1 fun o r => zT_len fun n => zT_K _ _ _ _ (zle_rf L)
  case newarray => exact zT_I1 fun n r => zT_bif (zT_nwa fun h e => zT_K _ _ _ _ e) zT_none
  case anewarray => exact zT_I1 fun n r => zT_nwa fun h e => zT_K _ _ _ _ e
  case new => exact zT_new fun h e => zT_K _ _ _ _ e
  case invokevirtual =>
    simp only [zgo]
    rcases ztk b [] st with _ | ⟨vs, r⟩
    · exact zT_none
    · exact zT_R1 fun o r => zT_bif (zT_C fun v q => zT_K _ _ _ _ (zle_rf L)) zT_none
  case invokestatic =>
    unfold zgo
    dsimp only
    split
    · exact zT_I2 fun x y r => zT_bif (zT_K _ _ _ _ (zle_rf L)) zT_none
    · exact zT_I2 fun x y r => zT_bif (zT_K _ _ _ _ (zle_rf L)) zT_none
    · exact zT_arc fun r q => zT_bif (zT_K _ _ _ _ (zle_rf L)) zT_none
    · rcases ztk b [] st with _ | ⟨vs, r⟩
      · exact zT_none
      · exact zT_bif (zT_C fun v q => zT_K _ _ _ _ (zle_rf L)) zT_none
  case invokespecial =>
    unfold zgo
    dsimp only
    split
    · exact zT_R1 fun o r => zT_bif (zT_K _ _ _ _ (zle_rf L)) zT_none
    · rcases ztk b [] st with _ | ⟨vs, r⟩
      · exact zT_none
      · exact zT_R1 fun o r => zT_bif (zT_CN (hc _ _ _) fun q e => zT_K _ _ _ _ e) zT_none
  case ireturn =>
    refine zT_c _ ?_
    intro v hv
    split at hv
    · cases a
      · cases hv; exact zle_rf L
      · simp only [Nat.beq, cond_false] at hv
        split at hv
        · cases hv; exact zle_rf L
        · cases hv
    · cases hv
  case lreturn =>
    refine zT_c _ ?_
    intro v hv
    split at hv
    · cases hv; exact zle_rf L
    · cases hv
  case areturn =>
    refine zT_c _ ?_
    intro v hv
    split at hv
    · cases hv; exact zle_rf L
    · cases hv
  case return_ =>
    refine zT_c _ ?_
    intro v hv
    split at hv
    · cases hv; exact zle_rf L
    · cases hv
  all_goals exact zT_none
end
theorem zstp_T0 (X : zX) (calls : zCalls) (hc : zCm calls) (C : List (Nat × zI)) (pc : Nat) (ls : zL) (st : List zV) (h : zH) : zT h.1 (fun K => zstp X calls C K pc ls st h) := by
  unfold zstp
  rcases zlook C pc with _ | ⟨i, len, a, b, c, d, tab⟩
  · exact zT_none
  · exact zgo_T _ _ hc _ _ _ _ _ _ _ _ _ _ _ _
theorem zstp_T1 (X : zX) (calls : zCalls) (hc : zCm calls) (C : List (Nat × zI)) (pc : Nat) (ls : zL) (st : List zV) (h : zH) : (∃ r : Option zR, (∀ v, r = some v → zle h.1 v.2.1) ∧ ∀ K, zstp X calls C K pc ls st h = r) ∨ ∃ pc' ls' st' h', zle h.1 h'.1 ∧ ∀ K, zstp X calls C K pc ls st h = K pc' ls' st' h' := zstp_T0 X calls hc C pc ls st h
theorem zstp_T (X : zX) (calls : zCalls) (hc : zCm calls) (C : List (Nat × zI)) (pc : Nat) (ls : zL) (st : List zV) (h : zH) : (∃ r, ∀ K, zstp X calls C K pc ls st h = r) ∨ ∃ pc' ls' st' h', ∀ K, zstp X calls C K pc ls st h = K pc' ls' st' h' := by
  rcases zstp_T1 X calls hc C pc ls st h with ⟨r, _, q⟩ | ⟨a1, a2, a3, a4, _, q⟩
  · exact Or.inl ⟨r, q⟩
  · exact Or.inr ⟨a1, a2, a3, a4, q⟩
theorem zrun_mono1 (X : zX) (calls : zCalls) (hc : zCm calls) (C : List (Nat × zI)) (cuts : zCut) : ∀ (n pc : Nat) (ls : zL) (st : List zV) (h : zH) (v : zR), zrun X calls C cuts n pc ls st h = some v → zrun X calls C cuts (n + 1) pc ls st h = some v := by
  intro n
  induction n with
  | zero => intro pc ls st h v e; exact absurd e (by simp [zrun])
  | succ n ih =>
    intro pc ls st h v e
    rcases zstp_T X calls hc C pc ls st h with ⟨r, hr⟩ | ⟨pc', ls', st', h', hr⟩
    · have e1 : zstp X calls C (zcutK cuts (zrun X calls C cuts n)) pc ls st h = some v := e
      show zstp X calls C (zcutK cuts (zrun X calls C cuts (n + 1))) pc ls st h = some v
      rw [hr] at e1 ⊢
      exact e1
    · have e1 : zstp X calls C (zcutK cuts (zrun X calls C cuts n)) pc ls st h = some v := e
      show zstp X calls C (zcutK cuts (zrun X calls C cuts (n + 1))) pc ls st h = some v
      rw [hr] at e1 ⊢
      exact ih _ _ _ _ _ e1
theorem zrun_mono (X : zX) (calls : zCalls) (hc : zCm calls) (C : List (Nat × zI)) (cuts : zCut) (n m : Nat) (hnm : n ≤ m) (pc : Nat) (ls : zL) (st : List zV) (h : zH) (v : zR) (e : zrun X calls C cuts n pc ls st h = some v) : zrun X calls C cuts m pc ls st h = some v := by
  induction hnm with
  | refl => exact e
  | step _ ih => exact zrun_mono1 _ _ hc _ _ _ _ _ _ _ _ ih
theorem zlim_some {α : Type} {f : Nat → Option α} {v : α} (h : zlim f = some v) : ∃ n, f n = some v := by
  unfold zlim at h
  split at h
  · next q => exact ⟨_, h⟩
  · cases h
theorem zlim_of {α : Type} {f : Nat → Option α} (hm : ∀ n m v, n ≤ m → f n = some v → f m = some v) {n : Nat} {v : α} (h : f n = some v) : zlim f = some v := by
  have hx : ∃ n, (f n).isSome = true := ⟨n, by rw [h]; rfl⟩
  unfold zlim
  rw [dif_pos hx]
  have h2 := Classical.choose_spec hx
  obtain ⟨w, hw⟩ := Option.isSome_iff_exists.mp h2
  have a1 := hm _ (max n (Classical.choose hx)) _ (Nat.le_max_left _ _) h
  have a2 := hm _ (max n (Classical.choose hx)) _ (Nat.le_max_right _ _) hw
  rw [hw, ← a2, a1]
theorem zrunL_some {X : zX} {calls : zCalls} {C : List (Nat × zI)} {cuts : zCut} {pc : Nat} {ls : zL} {st : List zV} {h : zH} {v : zR} (e : zrunL X calls C cuts pc ls st h = some v) : ∃ n, zrun X calls C cuts n pc ls st h = some v := zlim_some e
theorem zrunL_of {X : zX} {calls : zCalls} (hc : zCm calls) {C : List (Nat × zI)} {cuts : zCut} {n pc : Nat} {ls : zL} {st : List zV} {h : zH} {v : zR} (e : zrun X calls C cuts n pc ls st h = some v) : zrunL X calls C cuts pc ls st h = some v :=
  zlim_of (fun _ _ _ hnm q => zrun_mono X calls hc C cuts _ _ hnm _ _ _ _ _ q) e
theorem zrunL_eq (X : zX) (calls : zCalls) (hc : zCm calls) (C : List (Nat × zI)) (cuts : zCut) (pc : Nat) (ls : zL) (st : List zV) (h : zH) : zrunL X calls C cuts pc ls st h = zstp X calls C (zcutK cuts (zrunL X calls C cuts)) pc ls st h := by
  apply Option.ext
  intro v
  constructor
  · intro e
    obtain ⟨n, hn⟩ := zrunL_some e
    cases n with
    | zero => cases hn
    | succ n =>
      have e1 : zstp X calls C (zcutK cuts (zrun X calls C cuts n)) pc ls st h = some v := hn
      rcases zstp_T X calls hc C pc ls st h with ⟨r, hr⟩ | ⟨pc', ls', st', h', hr⟩
      · rw [hr] at e1 ⊢
        exact e1
      · rw [hr] at e1 ⊢
        exact zrunL_of hc e1
  · intro e
    rcases zstp_T X calls hc C pc ls st h with ⟨r, hr⟩ | ⟨pc', ls', st', h', hr⟩
    · rw [hr] at e
      exact zrunL_of hc (n := 1) (by show zstp X calls C (zcutK cuts (zrun X calls C cuts 0)) pc ls st h = some v; rw [hr]; exact e)
    · rw [hr] at e
      obtain ⟨n, hn⟩ := zrunL_some (show zrunL X calls C cuts pc' (zcm cuts pc' ls') st' h' = some v from e)
      exact zrunL_of hc (n := n + 1) (by show zstp X calls C (zcutK cuts (zrun X calls C cuts n)) pc ls st h = some v; rw [hr]; exact hn)
theorem zwalk_eq (X : zX) (calls : zCalls) (hc : zCm calls) (C : List (Nat × zI)) (cuts : zCut) : ∀ k, zwalk X calls C cuts k = zrunL X calls C cuts
  | 0 => rfl
  | k + 1 => by
    funext pc ls st h
    rw [zrunL_eq X calls hc]
    show zstp X calls C _ pc ls st h = _
    congr 1
    funext pc ls st h
    unfold zcutK zcm
    rw [zwalk_eq X calls hc C cuts k]
    cases zlook cuts pc <;> rfl
theorem zrun_le (X : zX) (calls : zCalls) (hc : zCm calls) (C : List (Nat × zI)) (cuts : zCut) : ∀ (n pc : Nat) (ls : zL) (st : List zV) (h : zH) (v : zR), zrun X calls C cuts n pc ls st h = some v → zle h.1 v.2.1 := by
  intro n
  induction n with
  | zero => intro pc ls st h v e; exact absurd e (by simp [zrun])
  | succ n ih =>
    intro pc ls st h v e
    have e1 : zstp X calls C (zcutK cuts (zrun X calls C cuts n)) pc ls st h = some v := e
    rcases zstp_T1 X calls hc C pc ls st h with ⟨r, hr1, hr⟩ | ⟨pc', ls', st', h', hr1, hr⟩
    · rw [hr] at e1
      exact hr1 v e1
    · rw [hr] at e1
      exact zle_tr hr1 (ih _ _ _ _ _ e1)
theorem zexec_m (X : zX) (MT : List zMt) : ∀ d, zCm (zexec X MT d)
  | 0 => fun _ _ _ _ h => by cases h
  | d + 1 => fun id vs h v e => by
    have e1 : (match MT[id]? with
      | some (_, _, n, _, C, cuts) => bif Nat.ble (zsl vs).length n then zrunL X (zexec X MT d) C cuts 0 (zcm cuts 0 (zargs n vs)) [] h else none
      | none => none) = some v := e
    rcases hM : MT[id]? with _ | ⟨y, cc, n, ret, C, cuts⟩
    · rw [hM] at e1; cases e1
    · rw [hM] at e1
      dsimp only at e1
      cases hb : Nat.ble (zsl vs).length n
      · rw [hb] at e1; cases e1
      · rw [hb] at e1
        obtain ⟨k, hk⟩ := zrunL_some (show zrunL X (zexec X MT d) C cuts 0 (zcm cuts 0 (zargs n vs)) [] h = some v from e1)
        exact zrun_le X _ (zexec_m X MT d) C cuts k _ _ _ _ _ hk
theorem zexec_eq {X : zX} {MT : List zMt} {d id n : Nat} {y : MethodName} {cc : ByteArray} {ret : Option FieldType} {C : List (Nat × zI)} {cuts : zCut} (hm : MT[id]? = some (y, cc, n, ret, C, cuts)) (vs : List zV) (hn : Nat.ble (zsl vs).length n = true) (h : zH) (k : Nat) : zexec X MT (d + 1) id vs h = zwalk X (zexec X MT d) C cuts k 0 (zcm cuts 0 (zargs n vs)) [] h := by
  rw [zwalk_eq X _ (zexec_m X MT d)]
  show (match MT[id]? with
    | some (_, _, n, _, C, cuts) => bif Nat.ble (zsl vs).length n then zrunL X (zexec X MT d) C cuts 0 (zcm cuts 0 (zargs n vs)) [] h else none
    | none => none) = _
  rw [hm]
  dsimp only
  rw [hn]
  rfl
end
section
/-! whole numbers and the machine's ints and longs -/
theorem zw_in (x : Int) : zin (zw x) := by unfold zin zw; omega
theorem zwl_in (x : Int) : zinl (zwl x) := by unfold zinl zwl; omega
theorem zw_id {x : Int} (h : zin x) : zw x = x := by unfold zin at h; unfold zw; omega
theorem zwl_id {x : Int} (h : zinl x) : zwl x = x := by unfold zinl at h; unfold zwl; omega
theorem zi_toInt {x : Int} (h : zin x) : (Int32.ofInt x).toInt = x := by
  unfold zin at h
  rw [Int32.toInt_ofInt]
  exact Int.bmod_eq_of_le (by rw [show (Int32.size : Int) = 4294967296 from rfl]; omega) (by rw [show (Int32.size : Int) = 4294967296 from rfl]; omega)
theorem zi_in (x : Int32) : zin x.toInt := by
  have h1 := Int32.le_toInt x
  have h2 := Int32.toInt_lt x
  unfold zin
  omega
theorem zj_toInt {x : Int} (h : zinl x) : (Int64.ofInt x).toInt = x := by
  unfold zinl at h
  rw [Int64.toInt_ofInt]
  exact Int.bmod_eq_of_le (by rw [show (Int64.size : Int) = 18446744073709551616 from rfl]; omega) (by rw [show (Int64.size : Int) = 18446744073709551616 from rfl]; omega)
theorem zj_in (x : Int64) : zinl x.toInt := by
  have h1 := Int64.le_toInt x
  have h2 := Int64.toInt_lt x
  unfold zinl
  omega
theorem zw_bmod (x : Int) : zw x = x.bmod (2 ^ 32) := by
  unfold zw Int.bmod
  dsimp only
  rw [show ((2 ^ 32 : Nat) : Int) = 4294967296 from rfl]
  split <;> omega
theorem zwl_bmod (x : Int) : zwl x = x.bmod (2 ^ 64) := by
  unfold zwl Int.bmod
  dsimp only
  rw [show ((2 ^ 64 : Nat) : Int) = 18446744073709551616 from rfl]
  split <;> omega
theorem zw_of (x : Int) : Int32.ofInt (zw x) = Int32.ofInt x := by
  apply Int32.toInt_inj.mp
  rw [zi_toInt (zw_in x), Int32.toInt_ofInt, zw_bmod]
theorem zwl_of (x : Int) : Int64.ofInt (zwl x) = Int64.ofInt x := by
  apply Int64.toInt_inj.mp
  rw [zj_toInt (zwl_in x), Int64.toInt_ofInt, zwl_bmod]
theorem zi_eq {x y : Int} (hx : zin x) (hy : zin y) : Int32.ofInt x = Int32.ofInt y ↔ x = y := by
  rw [← Int32.toInt_inj, zi_toInt hx, zi_toInt hy]
theorem zi_lt {x y : Int} (hx : zin x) (hy : zin y) : Int32.ofInt x < Int32.ofInt y ↔ x < y := by
  rw [Int32.lt_iff_toInt_lt, zi_toInt hx, zi_toInt hy]
theorem zi_le {x y : Int} (hx : zin x) (hy : zin y) : Int32.ofInt x ≤ Int32.ofInt y ↔ x ≤ y := by
  rw [Int32.le_iff_toInt_le, zi_toInt hx, zi_toInt hy]
theorem zi_add (x y : Int) : Int32.ofInt (zw (x + y)) = Int32.ofInt x + Int32.ofInt y := by rw [zw_of, Int32.ofInt_add]
theorem zi_sub (x y : Int) : Int32.ofInt (zw (x - y)) = Int32.ofInt x - Int32.ofInt y := by rw [zw_of, Int32.ofInt_sub]
theorem zi_mul (x y : Int) : Int32.ofInt (zw (x * y)) = Int32.ofInt x * Int32.ofInt y := by rw [zw_of, Int32.ofInt_mul]
theorem zi_neg (x : Int) : Int32.ofInt (zw (-x)) = - Int32.ofInt x := by rw [zw_of, Int32.ofInt_neg]
theorem zj_add (x y : Int) : Int64.ofInt (zwl (x + y)) = Int64.ofInt x + Int64.ofInt y := by rw [zwl_of, Int64.ofInt_add]
theorem zj_mul (x y : Int) : Int64.ofInt (zwl (x * y)) = Int64.ofInt x * Int64.ofInt y := by rw [zwl_of, Int64.ofInt_mul]
theorem zi_div {x y : Int} (hx : zin x) (hy : zin y) : Int32.ofInt (zdiv x y) = Int32.ofInt x / Int32.ofInt y := by
  apply Int32.toInt_inj.mp
  rw [Int32.toInt_div, zi_toInt hx, zi_toInt hy]
  unfold zdiv
  rw [zi_toInt (zw_in _), zw_bmod]
theorem zrem_in {x y : Int} (hx : zin x) (hy : ¬ y = 0) : zin (zrem x y) := by
  unfold zrem zin at *
  have h1 : (x.tmod y).natAbs ≤ x.natAbs := by
    rw [Int.natAbs_tmod]
    exact Nat.mod_le _ _
  by_cases h : 0 ≤ x
  · have h2 := Int.tmod_nonneg y h
    omega
  · have h3 : 0 ≤ (-x).tmod y := Int.tmod_nonneg y (by omega)
    rw [Int.neg_tmod] at h3
    omega
theorem zi_rem {x y : Int} (hx : zin x) (hy : zin y) (h0 : ¬ y = 0) : Int32.ofInt (zrem x y) = Int32.ofInt x - Int32.ofInt x / Int32.ofInt y * Int32.ofInt y := by
  rw [← zi_div hx hy]
  unfold zdiv
  rw [zw_of, ← Int32.ofInt_mul, ← Int32.ofInt_sub]
  congr 1
  unfold zrem
  have := Int.mul_tdiv_add_tmod x y
  rw [Int.mul_comm] at this
  omega
theorem zi_and (x y : Int) : Int32.ofInt (zand x y) = Int32.ofInt x &&& Int32.ofInt y := by unfold zand; rw [Int32.ofInt_toInt]
theorem zi_or (x y : Int) : Int32.ofInt (zor x y) = Int32.ofInt x ||| Int32.ofInt y := by unfold zor; rw [Int32.ofInt_toInt]
theorem zi_xor (x y : Int) : Int32.ofInt (zxor x y) = Int32.ofInt x ^^^ Int32.ofInt y := by unfold zxor; rw [Int32.ofInt_toInt]
theorem zi_shl (x y : Int) : Int32.ofInt (zshl x y) = Int32.ofInt x <<< (Int32.ofInt y &&& 31) := by unfold zshl; rw [Int32.ofInt_toInt]
theorem zi_shr (x y : Int) : Int32.ofInt (zshr x y) = Int32.ofInt x >>> (Int32.ofInt y &&& 31) := by unfold zshr; rw [Int32.ofInt_toInt]
theorem zi_ushr (x y : Int) : ((Int32.ofInt x).toUInt32 >>> ((Int32.ofInt y).toUInt32 &&& Int32.toUInt32 31)).toInt32 = Int32.ofInt (zushr x y) := by unfold zushr; rw [Int32.ofInt_toInt]
theorem zj_and (x y : Int) : Int64.ofInt (zandl x y) = Int64.ofInt x &&& Int64.ofInt y := by unfold zandl; rw [Int64.ofInt_toInt]
theorem zj_or (x y : Int) : Int64.ofInt (zorl x y) = Int64.ofInt x ||| Int64.ofInt y := by unfold zorl; rw [Int64.ofInt_toInt]
theorem zj_shl (x y : Int) : Int64.ofInt x <<< ((Int32.ofInt y).toInt64 &&& 63) = Int64.ofInt (zshll x y) := by unfold zshll; rw [Int64.ofInt_toInt]
theorem zi_2b (x : Int) : (Int32.ofInt x).toInt8.toInt32 = Int32.ofInt (zi2b x) := by unfold zi2b; rw [Int32.ofInt_toInt]
theorem zi_2s (x : Int) : (Int32.ofInt x).toInt16.toInt32 = Int32.ofInt (zi2s x) := by unfold zi2s; rw [Int32.ofInt_toInt]
theorem zi_2l {x : Int} (h : zin x) : (Int32.ofInt x).toInt64 = Int64.ofInt x := by
  apply Int64.toInt_inj.mp
  rw [Int32.toInt_toInt64, zi_toInt h, zj_toInt]
  unfold zin at h
  unfold zinl
  omega
theorem zj_2i {x : Int} (h : zinl x) : (Int64.ofInt x).toInt32 = Int32.ofInt (zw x) := by
  apply Int32.toInt_inj.mp
  rw [Int64.toInt_toInt32, zj_toInt h, zi_toInt (zw_in _), zw_bmod]
theorem zcmpl_in (x y : Int) : zin (zcmpl x y) := by
  unfold zcmpl zin
  split
  · omega
  · split <;> omega
theorem zj_cmp {x y : Int} (hx : zinl x) (hy : zinl y) : lg_cmp (Int64.ofInt x) (Int64.ofInt y) = Int32.ofInt (zcmpl x y) := by
  have h1 : Int64.ofInt y < Int64.ofInt x ↔ y < x := by rw [Int64.lt_iff_toInt_lt, zj_toInt hx, zj_toInt hy]
  have h2 : Int64.ofInt x = Int64.ofInt y ↔ x = y := by rw [← Int64.toInt_inj, zj_toInt hx, zj_toInt hy]
  unfold lg_cmp zcmpl
  by_cases a : y < x
  · rw [if_pos (h1.mpr a), if_pos a]; rfl
  · rw [if_neg (fun q => a (h1.mp q)), if_neg a]
    by_cases b : x = y
    · rw [if_pos (h2.mpr b), if_pos b]; rfl
    · rw [if_neg (fun q => b (h2.mp q)), if_neg b]; rfl
theorem zmax_in {x y : Int} (hx : zin x) (hy : zin y) : zin (zmax x y) := by unfold zmax; split <;> assumption
theorem zmin_in {x y : Int} (hx : zin x) (hy : zin y) : zin (zmin x y) := by unfold zmin; split <;> assumption
theorem zi_max {x y : Int} (hx : zin x) (hy : zin y) : (if Int32.ofInt x < Int32.ofInt y then Int32.ofInt y else Int32.ofInt x) = Int32.ofInt (zmax x y) := by
  unfold zmax
  by_cases h : x < y
  · rw [if_pos h, if_pos ((zi_lt hx hy).mpr h)]
  · rw [if_neg h, if_neg (fun q => h ((zi_lt hx hy).mp q))]
theorem zi_min {x y : Int} (hx : zin x) (hy : zin y) : (if Int32.ofInt y < Int32.ofInt x then Int32.ofInt y else Int32.ofInt x) = Int32.ofInt (zmin x y) := by
  unfold zmin
  by_cases h : y < x
  · rw [if_pos h, if_pos ((zi_lt hy hx).mpr h)]
  · rw [if_neg h, if_neg (fun q => h ((zi_lt hy hx).mp q))]
theorem zi_clamp {x : Int} (h : zin x) : (Int32.ofInt x).toNatClampNeg = x.toNat := by
  show (Int32.ofInt x).toInt.toNat = x.toNat
  rw [zi_toInt h]
theorem zi_vin {x : Int} {n : Nat} (h : zin x) (h0 : 0 ≤ x) (h1 : x < n) : vp_in (Int32.ofInt x) n := by
  rw [vp_in_iff, zi_toInt h]
  exact ⟨h0, h1⟩
theorem zi_neg0 {x : Int} (h : zin x) (h0 : 0 ≤ x) : ¬ Int32.ofInt x < 0 := by
  rw [Int32.lt_iff_toInt_lt, zi_toInt h, Int32.toInt_zero]
  omega
end
section
/-! what the small machine's state is in the heap -/
def zad (as ea : Nat → Nat) (k : Nat) : Nat := if k < 1000 then as k else ea (k - 1000)
def zc (ad : Nat → Nat) : zV → Value
  | .inl none => .null
  | .inl (some k) => .ref (ad k)
  | .inr (.inl i) => .int (Int32.ofInt i)
  | .inr (.inr l) => .long (Int64.ofInt l)
def zfv (ad : Nat → Nat) (f : Int → Int) (j : Nat) (o : Option (Option Nat)) : Value := match o with
  | none => .int (Int32.ofInt (f j))
  | some r => va_rf (r.map ad)
def zcell (ad : Nat → Nat) (ca : ClassId) (f : Int → Int) (s : zS) : va_E := match s with
  | .inl (0, n, _) => .inl (ca, n, .inl (fun j => Int32.ofInt (f j)))
  | .inl (1, n, _) => .inl (ca, n, .inr (.inl (fun j => Int64.ofInt (f j))))
  | .inl (_ + 2, n, ts) => .inl (ca, n, .inr (.inr (.inr (.inr (fun j => (ts.getD j none).map ad)))))
  | .inr (c, fs) => .inr (c, fs.mapIdx (zfv ad f))
def zws (as ea : Nat → Nat) (cas : Nat → ClassId) (L : List zS) (σ : zF) : va_W := L.mapIdx (fun k s => (as k, zcell (zad as ea) (cas k) (σ k) s))
def zty : Nat → FieldType
  | 0 => .int
  | 1 => .long
  | _ => .object RX7
def zsok (n : Nat) (s : zS) : Prop := match s with
  | .inl (tag, len, ts) => tag < 3 ∧ len ≤ 1000 ∧ (∀ t, some t ∈ ts → t < n) ∧ (tag = 2 → ts.length = len)
  | .inr (c, fs) => (∀ t, some (some t) ∈ fs → t < n) ∧ ∃ q, vwCl[c]? = some q ∧ q.2.2 = fs.length
def znum (s : zS) (f : Int → Int) : Prop := match s with
  | .inl (1, _, _) => ∀ i, zinl (f i)
  | _ => ∀ i, zin (f i)
def zHok (L : List zS) (σ : zF) : Prop := (∀ k s, L[k]? = some s → zsok L.length s ∧ znum s (σ k)) ∧ L.length ≤ 1000
def zvok (n : Nat) : zV → Prop
  | .inl none => False
  | .inl (some k) => k < n ∨ 1000 ≤ k
  | .inr (.inl i) => zin i
  | .inr (.inr i) => zinl i
def zWd (D : va_G) (as ea : Nat → Nat) (cas : Nat → ClassId) (tys : List (ClassId × FieldType)) (A : Nat → Prop) (s : State) (H : Heap) (locs : List Loc) (L : List zS) (σ : zF) : Prop :=
  va_K D vwCl tys s ∧ va_P D vwCl (zws as ea cas L σ) H ∧ va_D A (zws as ea cas L σ) ∧ va_S A s.heap H locs ∧ zHok L σ ∧ ∀ (k tag n : Nat) (ts : List (Option Nat)), L[k]? = some (.inl (tag, n, ts)) → ∃ t0 : Nat, tys[t0]? = some (cas k, zty tag)
def zLc (ad : Nat → Nat) (n : Nat) (lsA : Array Slot) (nL : Nat) (ls : zL) : Prop := lsA.size = nL ∧ lv_wf lsA ∧ ∀ (j : Nat) (v : zV), ls[j]? = some (some v) → lsA[j]? = some (Slot.val (zc ad v)) ∧ zvok n v
theorem zws_get (as ea : Nat → Nat) (cas : Nat → ClassId) (L : List zS) (σ : zF) (k : Nat) : (zws as ea cas L σ)[k]? = (L[k]?).map (fun s => (as k, zcell (zad as ea) (cas k) (σ k) s)) := List.getElem?_mapIdx
theorem zws_len (as ea : Nat → Nat) (cas : Nat → ClassId) (L : List zS) (σ : zF) : (zws as ea cas L σ).length = L.length := List.length_mapIdx
theorem zws_set {as ea : Nat → Nat} {cas : Nat → ClassId} {L : List zS} {σ σ' : zF} {k : Nat} {s s' : zS} {e : va_E} (h : L[k]? = some s) (ho : ∀ j, j ≠ k → σ' j = σ j) (he : zcell (zad as ea) (cas k) (σ' k) s' = e) : (zws as ea cas L σ).set k (as k, e) = zws as ea cas (L.set k s') σ' := by
  apply List.ext_getElem?
  intro j
  rw [zws_get, List.getElem?_set, List.getElem?_set, zws_len, zws_get]
  have hk : k < L.length := (List.getElem?_eq_some_iff.mp h).1
  by_cases hj : k = j
  · subst hj
    simp [hk, he]
  · rw [if_neg hj, if_neg hj, ho j (fun q => hj q.symm)]
theorem zvok_mono {n n' : Nat} {v : zV} (hn : n ≤ n') (h : zvok n v) : zvok n' v := by
  rcases v with (_ | k) | i | i
  · exact h
  · rcases h with h | h
    · exact Or.inl (Nat.lt_of_lt_of_le h hn)
    · exact Or.inr h
  · exact h
  · exact h
theorem zsok_mono {n n' : Nat} {s : zS} (hn : n ≤ n') (h : zsok n s) : zsok n' s := by
  rcases s with ⟨tag, len, ts⟩ | ⟨c, fs⟩
  · exact ⟨h.1, h.2.1, fun t ht => Nat.lt_of_lt_of_le (h.2.2.1 t ht) hn, h.2.2.2⟩
  · exact ⟨fun t ht => Nat.lt_of_lt_of_le (h.1 t ht) hn, h.2⟩
theorem zcell_congr {ad ad' : Nat → Nat} {n : Nat} {s : zS} (hs : zsok n s) (h : ∀ t, t < n → ad t = ad' t) (ca : ClassId) (f : Int → Int) : zcell ad ca f s = zcell ad' ca f s := by
  rcases s with ⟨tag, len, ts⟩ | ⟨c, fs⟩
  · rcases tag with _ | _ | tag
    · rfl
    · rfl
    · show (Sum.inl (ca, len, Sum.inr (Sum.inr (Sum.inr (Sum.inr _)))) : va_E) = Sum.inl (ca, len, Sum.inr (Sum.inr (Sum.inr (Sum.inr _))))
      congr 7
      funext j
      rcases hj : ts[j]? with _ | _ | t
      · simp [List.getD, hj]
      · simp [List.getD, hj]
      · have := h t (hs.2.2.1 t (List.mem_of_getElem? hj))
        simp [List.getD, hj, this]
  · show (Sum.inr (c, _) : va_E) = Sum.inr (c, _)
    congr 2
    apply List.ext_getElem?
    intro j
    rw [List.getElem?_mapIdx, List.getElem?_mapIdx]
    rcases hj : fs[j]? with _ | _ | _ | t
    · rfl
    · rfl
    · rfl
    · have := h t (hs.1 t (List.mem_of_getElem? hj))
      simp [zfv, this]
theorem zc_congr {ad ad' : Nat → Nat} {n : Nat} {v : zV} (hs : zvok n v) (h : ∀ t, t < n ∨ 1000 ≤ t → ad t = ad' t) : zc ad v = zc ad' v := by
  rcases v with (_ | k) | i | i
  · rfl
  · show Value.ref (ad k) = Value.ref (ad' k)
    rw [h k hs]
  · rfl
  · rfl
def zup (as : Nat → Nat) (n q : Nat) : Nat → Nat := fun k => if k = n then q else as k
theorem zup_lt {as : Nat → Nat} {n q k : Nat} (h : k < n) : zup as n q k = as k := by unfold zup; rw [if_neg (by omega)]
theorem zup_at {as : Nat → Nat} {n q : Nat} : zup as n q n = q := by unfold zup; rw [if_pos rfl]
theorem zad_up {as ea : Nat → Nat} {n q t : Nat} (hn : n < 1000) (h : t < n ∨ 1000 ≤ t) : zad (zup as n q) ea t = zad as ea t := by
  unfold zad
  split
  · exact zup_lt (by omega)
  · rfl
theorem zws_app {as ea : Nat → Nat} {cas cas' : Nat → ClassId} {L : List zS} {σ σ' : zF} {q : Nat} {s : zS} (hL : L.length < 1000) (hok : zHok L σ) (hc : ∀ k, k < L.length → cas' k = cas k) (hσ : ∀ k, k < L.length → σ' k = σ k) :
    zws (zup as L.length q) ea cas' (L ++ [s]) σ' = zws as ea cas L σ ++ [(q, zcell (zad (zup as L.length q) ea) (cas' L.length) (σ' L.length) s)] := by
  apply List.ext_getElem?
  intro j
  rw [zws_get, List.getElem?_append, List.getElem?_append, zws_len, zws_get]
  by_cases hj : j < L.length
  · rw [if_pos hj, if_pos hj]
    rcases hs : L[j]? with _ | x
    · rfl
    · show some _ = some _
      dsimp only
      rw [zup_lt hj, hc j hj, hσ j hj, zcell_congr (ad := zad (zup as L.length q) ea) (ad' := zad as ea) (hok.1 j x hs).1 (fun t ht => zad_up hL (Or.inl ht))]
  · rw [if_neg hj, if_neg hj]
    rcases hd : j - L.length with _ | d
    · have : j = L.length := by omega
      subst this
      simp [zup_at]
    · simp
def zpairs (ad : Nat → Nat) (ls : zL) : List (Nat × Value) := (List.range ls.length).filterMap (fun j => match ls[j]? with
  | some (some v) => some (j, zc ad v)
  | _ => none)
theorem zpairs_mem {ad : Nat → Nat} {ls : zL} {q : Nat × Value} : q ∈ zpairs ad ls ↔ ∃ v, ls[q.1]? = some (some v) ∧ q.2 = zc ad v := by
  unfold zpairs
  rw [List.mem_filterMap]
  constructor
  · rintro ⟨j, hj, e⟩
    rcases hl : ls[j]? with _ | _ | v
    · rw [hl] at e; cases e
    · rw [hl] at e; cases e
    · rw [hl] at e
      cases e
      exact ⟨v, hl, rfl⟩
  · rintro ⟨v, h1, h2⟩
    refine ⟨q.1, List.mem_range.mpr (List.getElem?_eq_some_iff.mp h1).1, ?_⟩
    rw [h1]
    show some (q.1, zc ad v) = some q
    rw [← h2]
theorem zLc.has {ad : Nat → Nat} {n : Nat} {lsA : Array Slot} {nL : Nat} {ls : zL} (h : zLc ad n lsA nL ls) : lv_has lsA nL (zpairs ad ls) := by
  refine ⟨h.1, h.2.1, fun q hq => ?_⟩
  obtain ⟨v, h1, h2⟩ := zpairs_mem.mp hq
  rw [h2]
  exact (h.2.2 _ _ h1).1
theorem zLc.at {ad : Nat → Nat} {n : Nat} {lsA : Array Slot} {nL : Nat} {ls : zL} (h : zLc ad n lsA nL ls) {j : Nat} {v : zV} (e : ls[j]? = some (some v)) : lsA[j]? = some (.val (zc ad v)) := (h.2.2 j v e).1
theorem zc_cat (ad : Nat → Nat) (v : zV) : (zc ad v).category = zcat v := by
  rcases v with (_ | k) | i | i <;> rfl
theorem zunl_get {ls : zL} {a j : Nat} {v : zV} (h : (zunl ls a)[j]? = some (some v)) : ls[j]? = some (some v) ∧ ¬ (j + 1 = a ∧ zcat v = 2) := by
  rcases a with _ | a
  · exact ⟨h, by omega⟩
  · unfold zunl at h
    dsimp only at h
    split at h
    · next x hx =>
      rw [List.getElem?_set] at h
      split at h
      · split at h <;> cases h
      · next hne => exact ⟨h, by omega⟩
    · next hx =>
      refine ⟨h, ?_⟩
      rintro ⟨e1, e2⟩
      have e3 : j = a := by omega
      subst e3
      rcases v with (_ | k) | i | i
      · exact absurd e2 (by decide)
      · cases e2
      · cases e2
      · exact hx i h
theorem zLc_st1 {ad : Nat → Nat} {n : Nat} {lsA ls' : Array Slot} {nL : Nat} {ls : zL} {a : Nat} {v : zV} (h : zLc ad n lsA nL ls) (hv : zvok n v) (h' : lv_has ls' nL ((a, zc ad v) :: (zpairs ad ls).filter (fun q => !(q.1 == a) && !(q.1 + 1 == a && q.2.category == 2)))) : zLc ad n ls' nL (zst1 ls a v) := by
  refine ⟨h'.1, h'.2.1, fun j w hj => ?_⟩
  unfold zst1 at hj
  rw [List.getElem?_set] at hj
  split at hj
  · next e =>
    split at hj
    · cases hj
      subst e
      exact ⟨h'.2.2 _ List.mem_cons_self, hv⟩
    · cases hj
  · next e =>
    obtain ⟨h1, h2⟩ := zunl_get hj
    refine ⟨h'.2.2 (j, zc ad w) (List.mem_cons_of_mem _ (List.mem_filter.mpr ⟨zpairs_mem.mpr ⟨w, h1, rfl⟩, ?_⟩)), (h.2.2 _ _ h1).2⟩
    have hne : ¬ j = a := fun q => e q.symm
    simp only [zc_cat, Bool.and_eq_true, Bool.not_eq_true', beq_eq_false_iff_ne, ne_eq, hne, not_false_eq_true, true_and]
    simp only [Bool.and_eq_false_iff, beq_eq_false_iff_ne, ne_eq]
    by_cases q : j + 1 = a
    · exact Or.inr (fun q2 => h2 ⟨q, q2⟩)
    · exact Or.inl q
theorem zLc_st2 {ad : Nat → Nat} {n : Nat} {lsA ls' : Array Slot} {nL : Nat} {ls : zL} {a : Nat} {v : zV} (h : zLc ad n lsA nL ls) (hv : zvok n v) (h' : lv_has ls' nL ((a, zc ad v) :: (zpairs ad ls).filter (fun q => !(q.1 == a) && (!(q.1 == a + 1) && !(q.1 + 1 == a && q.2.category == 2))))) : zLc ad n ls' nL (zst2 ls a v) := by
  refine ⟨h'.1, h'.2.1, fun j w hj => ?_⟩
  unfold zst2 at hj
  rw [List.getElem?_set] at hj
  split at hj
  · split at hj <;> cases hj
  · next e2 =>
    rw [List.getElem?_set] at hj
    split at hj
    · next e =>
      split at hj
      · cases hj
        subst e
        exact ⟨h'.2.2 _ List.mem_cons_self, hv⟩
      · cases hj
    · next e =>
      obtain ⟨h1, h2⟩ := zunl_get hj
      refine ⟨h'.2.2 (j, zc ad w) (List.mem_cons_of_mem _ (List.mem_filter.mpr ⟨zpairs_mem.mpr ⟨w, h1, rfl⟩, ?_⟩)), (h.2.2 _ _ h1).2⟩
      have hne : ¬ j = a := fun q => e q.symm
      have hne2 : ¬ j = a + 1 := fun q => e2 q.symm
      simp only [zc_cat, Bool.and_eq_true, Bool.not_eq_true', beq_eq_false_iff_ne, ne_eq, hne, hne2, not_false_eq_true, true_and]
      simp only [Bool.and_eq_false_iff, beq_eq_false_iff_ne, ne_eq]
      by_cases q : j + 1 = a
      · exact Or.inr (fun q2 => h2 ⟨q, q2⟩)
      · exact Or.inl q
theorem zmask_get : ∀ (m : List Bool) (ls : zL) (j : Nat) (v : zV), (zmask m ls)[j]? = some (some v) → ls[j]? = some (some v)
  | [], _, _, _, h => by simp [zmask] at h
  | _ :: _, [], _, _, h => by simp [zmask] at h
  | b :: m, x :: ls, 0, v, h => by
    cases b
    · simp [zmask] at h
    · simpa [zmask] using h
  | b :: m, x :: ls, j + 1, v, h => by
    have := zmask_get m ls j v (by simpa [zmask] using h)
    simpa using this
theorem zLc.cut {ad : Nat → Nat} {n : Nat} {lsA : Array Slot} {nL : Nat} {ls : zL} (h : zLc ad n lsA nL ls) (cuts : zCut) (pc : Nat) : zLc ad n lsA nL (zcm cuts pc ls) := by
  refine ⟨h.1, h.2.1, fun j v e => ?_⟩
  unfold zcm at e
  split at e
  · exact h.2.2 j v e
  · exact h.2.2 j v (zmask_get _ _ _ _ e)
theorem zLc.up {as ea : Nat → Nat} {n q : Nat} {lsA : Array Slot} {nL : Nat} {ls : zL} (hn : n < 1000) (h : zLc (zad as ea) n lsA nL ls) : zLc (zad (zup as n q) ea) (n + 1) lsA nL ls := by
  refine ⟨h.1, h.2.1, fun j v e => ?_⟩
  obtain ⟨h1, h2⟩ := h.2.2 j v e
  refine ⟨?_, zvok_mono (Nat.le_succ _) h2⟩
  rw [h1, zc_congr h2 (fun t ht => (zad_up hn ht).symm)]
theorem zc_map_congr {ad ad' : Nat → Nat} {n : Nat} (h : ∀ t, t < n ∨ 1000 ≤ t → ad t = ad' t) : ∀ (st : List zV), (∀ v ∈ st, zvok n v) → st.map (zc ad) = st.map (zc ad')
  | [], _ => rfl
  | v :: r, hv => by
    rw [List.map_cons, List.map_cons, zc_congr (hv v List.mem_cons_self) h, zc_map_congr h r (fun w hw => hv w (List.mem_cons_of_mem _ hw))]
theorem zwords_eq (ad : Nat → Nat) : ∀ (st : List zV), ((st.map (zc ad)).map fun v => v.category).sum = zwords st
  | [] => rfl
  | v :: r => by
    simp only [List.map_cons, List.sum_cons, zwords, zc_cat]
    rw [← zwords_eq ad r]
theorem ztk_some : ∀ (n : Nat) (acc st vs r : List zV), ztk n acc st = some (vs, r) → vs.reverse ++ r = acc.reverse ++ st ∧ vs.length = acc.length + n
  | 0, acc, st, vs, r, h => by
    simp only [ztk, Option.some.injEq, Prod.mk.injEq] at h
    obtain ⟨rfl, rfl⟩ := h
    exact ⟨rfl, rfl⟩
  | n + 1, acc, [], vs, r, h => by simp [ztk] at h
  | n + 1, acc, v :: st, vs, r, h => by
    obtain ⟨h1, h2⟩ := ztk_some n (v :: acc) st vs r h
    refine ⟨by rw [h1]; simp, by rw [h2]; simp; omega⟩
theorem zset_o {σ : zF} {k j : Nat} {i v : Int} (h : j ≠ k) : zset σ k i v j = σ j := by
  funext i'
  unfold zset
  rw [if_neg (fun q => h q.1)]
theorem zset_at {σ : zF} {k : Nat} {i v i' : Int} : zset σ k i v k i' = if i' = i then v else σ k i' := by
  unfold zset
  by_cases h : i' = i
  · rw [if_pos h, if_pos ⟨rfl, h⟩]
  · rw [if_neg h, if_neg (fun q => h q.2)]
theorem zHok_set {L : List zS} {σ : zF} {k : Nat} {i v : Int} (h : zHok L σ) (hv : ∀ s, L[k]? = some s → znum s (fun _ => v)) : zHok L (zset σ k i v) := by
  refine ⟨fun j s hs => ⟨(h.1 j s hs).1, ?_⟩, h.2⟩
  have h1 := (h.1 j s hs).2
  by_cases hj : j = k
  · subst hj
    have h2 := hv s hs
    rcases s with ⟨_ | _ | tag, n, ts⟩ | ⟨c, fs⟩
    all_goals
      intro i'
      rw [zset_at]
      split
      · exact h2 0
      · exact h1 i'
  · rw [zset_o hj]
    exact h1
theorem zcell_seti {ad : Nat → Nat} {ca : ClassId} {σ : zF} {k n : Nat} {ts : List (Option Nat)} {i v : Int} (h0 : 0 ≤ i) : zcell ad ca (zset σ k i v k) (.inl (0, n, ts)) = .inl (ca, n, .inl (upd (fun j : Nat => Int32.ofInt (σ k j)) i.toNat (Int32.ofInt v))) := by
  show (Sum.inl (ca, n, Sum.inl _) : va_E) = Sum.inl (ca, n, Sum.inl _)
  congr 4
  funext j
  rw [zset_at]
  unfold upd
  by_cases h : j = i.toNat
  · rw [if_pos h, if_pos (by omega)]
  · rw [if_neg h, if_neg (by omega)]
theorem zcell_setj {ad : Nat → Nat} {ca : ClassId} {σ : zF} {k n : Nat} {ts : List (Option Nat)} {i v : Int} (h0 : 0 ≤ i) : zcell ad ca (zset σ k i v k) (.inl (1, n, ts)) = .inl (ca, n, .inr (.inl (vp_updL (fun j : Nat => Int64.ofInt (σ k j)) i.toNat (Int64.ofInt v)))) := by
  show (Sum.inl (ca, n, Sum.inr (Sum.inl _)) : va_E) = Sum.inl (ca, n, Sum.inr (Sum.inl _))
  congr 5
  funext j
  rw [zset_at]
  unfold vp_updL
  by_cases h : j = i.toNat
  · rw [if_pos h, if_pos (by omega)]
  · rw [if_neg h, if_neg (by omega)]
theorem zcell_setf {ad : Nat → Nat} {ca : ClassId} {σ : zF} {k c b : Nat} {fs : List (Option (Option Nat))} {v : Int} (hb : fs[b]? = some none) : zcell ad ca (zset σ k b v k) (.inr (c, fs)) = .inr (c, (fs.mapIdx (zfv ad (σ k))).set b (.int (Int32.ofInt v))) := by
  show (Sum.inr (c, _) : va_E) = Sum.inr (c, _)
  congr 2
  apply List.ext_getElem?
  intro j
  rw [List.getElem?_mapIdx, List.getElem?_set, List.getElem?_mapIdx, List.length_mapIdx]
  have hl := (List.getElem?_eq_some_iff.mp hb).1
  by_cases h : b = j
  · subst h
    rw [if_pos rfl, if_pos hl, hb]
    show some (Value.int _) = _
    rw [zset_at, if_pos rfl]
  · rw [if_neg h]
    rcases fs[j]? with _ | _ | o
    · rfl
    · show some (Value.int _) = some (Value.int _)
      rw [zset_at, if_neg (by omega)]
    · rfl
theorem zcell_setr {ad : Nat → Nat} {ca : ClassId} {f : Int → Int} {c b t : Nat} {fs : List (Option (Option Nat))} (hl : b < fs.length) : zcell ad ca f (.inr (c, fs.set b (some (some t)))) = .inr (c, (fs.mapIdx (zfv ad f)).set b (.ref (ad t))) := by
  show (Sum.inr (c, _) : va_E) = Sum.inr (c, _)
  congr 2
  apply List.ext_getElem?
  intro j
  rw [List.getElem?_mapIdx, List.getElem?_set, List.getElem?_set, List.getElem?_mapIdx, List.length_mapIdx]
  by_cases h : b = j
  · subst h
    rw [if_pos rfl, if_pos hl, if_pos rfl, if_pos hl]
    rfl
  · rw [if_neg h, if_neg h]
theorem zcell_seta {ad : Nat → Nat} {ca : ClassId} {f : Int → Int} {n t i : Nat} {ts : List (Option Nat)} (hl : i < ts.length) : zcell ad ca f (.inl (2, n, ts.set i (some t))) = .inl (ca, n, .inr (.inr (.inr (.inr (va_up (fun j => (ts.getD j none).map ad) i (some (ad t))))))) := by
  show (Sum.inl (ca, n, Sum.inr (Sum.inr (Sum.inr (Sum.inr _)))) : va_E) = Sum.inl (ca, n, Sum.inr (Sum.inr (Sum.inr (Sum.inr _))))
  congr 7
  funext j
  unfold va_up
  by_cases h : j = i
  · subst h
    rw [if_pos rfl]
    simp [List.getD, hl]
  · rw [if_neg h]
    simp only [List.getD, List.getElem?_set]
    rw [if_neg (fun q => h q.symm)]
end
section
/-! ONE STEP of the small machine is a step of the Java machine -/
def zTb : List Jvm.Cond := lw_tbl.filter goodWord
theorem zTb_in {w : Jvm.Cond} (h : w ∈ lw_tbl) (hg : goodWord w = true) : w ∈ zTb := List.mem_filter.mpr ⟨h, hg⟩
def zRX11 : String := "RoadsThanked"
def zNst : List (String × Nat × MethodName × String) := [(RX11, 9, yX3_init, RX11), (RX11, 18, yX4_init, RX11), (RX11, 25, yX2_init, RX11), (RX11, 82, yX8_init, RX11), (RX11, 93, yX7_init, RX11), (RX3, 53, yX11_isLength, RX11), (RX3, 56, yX11_isPlace, RX11)]
def zNs (U : State) : Prop := (∀ q ∈ zNst, va_Nw (.methodLinkNest q.1 q.2.1 q.2.2.1 q.2.2.2) U) ∧ va_AO RX7 U
def zstat : List String := ["OWN", "ABOVE"]
def zExt (ea : Nat → Nat) (X : zX) (A : Nat → Prop) (U : State) : Prop :=
  (∀ (j : Nat) (nm : String), zstat[j]? = some nm → va_Z RX8 nm "[I" (.ref (ea j)) A U U.heap) ∧ (∀ (j n : Nat) (f : Nat → Int), X[j]? = some (n, f) → va_T .int (ea j) n (fun i => .int (Int32.ofInt (f i))) A U U.heap ∧ n ≤ 100000 ∧ ∀ i, zin (f i))
def zCtx (p : Program) (s : State) (m : MethodId) (args : Array Value) (c : Code) (cc : ByteArray) (nL : Nat) (own : String) (A : Nat → Prop) (ea : Nat → Nat) (X : zX) : Prop :=
  p.tables.exec = Jvm.exec ∧ c.code = cc ∧ c.maxLocals = nL ∧ s.vm.findClass own = some m.cls ∧ (∀ w ∈ zTb, w.before args s = true) ∧ (∀ q : Nat, s.heap.size ≤ q → A q) ∧ zExt ea X A s ∧ zNs s
/-- the machine at a state of the small one: it comes to Q -/
def zG (p : Program) (l : Launch) (e : Env) (R : Room) (s : State) (m : MethodId) (args : Array Value) (below : List Frame) (meth : Method) (c : Code) (Q : State → Prop) (D : va_G) (as0 ea : Nat → Nat) (A : Nat → Prop) (nL : Nat) (L0 : List zS) (pc : Nat) (ls : zL) (st : List zV) (h : zH) : Prop :=
  ∀ (as : Nat → Nat) (cas : Nat → ClassId) (tys : List (ClassId × FieldType)) (H : Heap) (locs : List Loc) (lsA : Array Slot), zWd D as ea cas tys A s H locs h.1 h.2 → (∀ k, k < L0.length → as k = as0 k) → zLc (zad as ea) h.1.length lsA nL ls → (∀ v ∈ st, zvok h.1.length v) → zle L0 h.1 →
    W p l e R s m args below meth c H locs (h.1.length - L0.length) (zslots h.1 - zslots L0) Q (F0 m pc lsA (st.map (zc (zad as ea))))
def zrt (ret : Option FieldType) (i : Instr) (v : Option zV) : Prop := match v with
  | none => i = .return_ ∧ ret = none
  | some (.inr (.inl x)) => i = .ireturn ∧ (ret = some .int ∨ (ret = some .boolean ∧ (x = 0 ∨ x = 1)))
  | some (.inr (.inr _)) => i = .lreturn ∧ ret = some .long
  | some (.inl (some _)) => i = .areturn ∧ ∃ rt, ret = some rt ∧ ((∃ n, rt = .object n) ∨ ∃ t, rt = .array t)
  | some (.inl none) => False
def zRet (p : Program) (l : Launch) (e : Env) (R : Room) (s : State) (m : MethodId) (args : Array Value) (below : List Frame) (meth : Method) (c : Code) (Q : State → Prop) (D : va_G) (as0 ea : Nat → Nat) (A : Nat → Prop) (cc : ByteArray) (ret : Option FieldType) (L0 : List zS) (r : zR) : Prop :=
  ∀ (as : Nat → Nat) (cas : Nat → ClassId) (tys : List (ClassId × FieldType)) (H : Heap) (locs : List Loc) (lsA : Array Slot) (pc : Nat) (i : Instr), zWd D as ea cas tys A s H locs r.2.1 r.2.2 → (∀ k, k < L0.length → as k = as0 k) → (∀ v, r.1 = some v → zvok r.2.1.length v) → zle L0 r.2.1 → decode cc pc = .ok (i, 1) → zrt ret i r.1 →
    W p l e R s m args below meth c H locs (r.2.1.length - L0.length) (zslots r.2.1 - zslots L0) Q (F0 m pc lsA (r.1.toList.map (zc (zad as ea))))
-- what a row of code must be held to, beside its bytes
def ztabOK (pc : Nat) : Int → List Int → List (Int × Nat) → Prop
  | _, [], [] => True
  | lo, o :: os, (v, t) :: tab => v = lo ∧ (pc : Int) + o = t ∧ ztabOK pc (lo + 1) os tab
  | _, _, _ => False
def zlkpOK (pc : Nat) : List (Int × Int) → List (Int × Nat) → Prop
  | [], [] => True
  | (a, o) :: ps, (v, t) :: tab => v = a ∧ (pc : Int) + o = t ∧ zlkpOK pc ps tab
  | _, _ => False
def zconOK (P : Int → Prop) : List (Int × Nat) → Prop
  | (v, _) :: _ => P v
  | [] => False
def zfldOK (own : String) (idx a b : Nat) : Prop := ∃ (C : String) (T : u_T) (N : Nat), vwCl[a]? = some (C, T, N) ∧ b < N ∧ (T b).1 = C ∧ Jvm.Cond.fieldLink own idx C (T b).2.1 (T b).2.2.1 ∈ lw_tbl
def zputOK (own nm : String) (idx a b c : Nat) : Prop := ∃ (C : String) (T : u_T) (N : Nat) (ty : FieldType), vwCl[a]? = some (C, T, N) ∧ b < N ∧ (T b).1 = C ∧ Jvm.Cond.fieldLink own idx C (T b).2.1 (T b).2.2.1 ∈ lw_tbl ∧ parseFieldDescriptor (T b).2.2.1 = some ty ∧
  ((c = 0 ∧ ty = .int ∧ (T b).2.2.2 = false) ∨ (c = 1 ∧ ty = .boolean ∧ (T b).2.2.2 = false) ∨ (c = 2 ∧ ((∃ n, ty = .object n) ∨ ∃ t, ty = .array t) ∧ (T b).2.2.2 = true ∧ nm = "<init>" ∧ (T b).1 = own))
def zparOK (y : MethodName) (n : Nat) : Prop := y.cls ≠ "java/lang/invoke/MethodHandle" ∧ y.cls ≠ "java/lang/invoke/VarHandle" ∧ (parseMethodDescriptor y.desc).map (fun d => d.parameters.length) = some n
def zlnkOK (own : String) (idx : Nat) (y : MethodName) : Prop := Jvm.Cond.methodLink own idx y ∈ lw_tbl ∨ ∃ host, (own, idx, y, host) ∈ zNst
def zvirOK (MT : List zMt) (own : String) (idx a b d : Nat) : Prop := ∃ (y : MethodName) (cc : ByteArray) (n : Nat) (ret : Option FieldType) (C : List (Nat × zI)) (cuts : zCut) (T : u_T) (N : Nat), MT[a]? = some (y, cc, n, ret, C, cuts) ∧ vwCl[d]? = some (y.cls, T, N) ∧ zparOK y b ∧ zlnkOK own idx y ∧ Jvm.Cond.instanceMethod y ∈ lw_tbl ∧ Jvm.Cond.selects y.cls y y ∈ lw_tbl ∧ Jvm.Cond.initialized y.cls ∈ lw_tbl
def zsttOK (MT : List zMt) (own : String) (idx a b : Nat) : Prop := ∃ (y : MethodName) (cc : ByteArray) (n : Nat) (ret : Option FieldType) (C : List (Nat × zI)) (cuts : zCut), MT[a]? = some (y, cc, n, ret, C, cuts) ∧ zparOK y b ∧ zlnkOK own idx y ∧ Jvm.Cond.static y ∈ lw_tbl ∧ Jvm.Cond.initialized y.cls ∈ lw_tbl
def ziniOK (MT : List zMt) (own : String) (idx a b d : Nat) : Prop := ∃ (y : MethodName) (cc : ByteArray) (n : Nat) (C : List (Nat × zI)) (cuts : zCut) (T : u_T) (N : Nat), MT[a]? = some (y, cc, n, none, C, cuts) ∧ vwCl[d]? = some (y.cls, T, N) ∧ zparOK y b ∧ zlnkOK own idx y ∧ Jvm.Cond.instanceMethod y ∈ lw_tbl ∧ Jvm.Cond.initialized y.cls ∈ lw_tbl ∧ y.name = "<init>"
def zlk (MT : List zMt) (own nm : String) (nL : Nat) (ret : Option FieldType) (pc : Nat) (q : zI) : Prop := match q with
  | (i, len, a, b, c, d, tab) => match i with
    | .iload k => k = a ∧ len = 2
    | .iload_n k => (k : Nat) = a ∧ len = 1
    | .lload k => k = a ∧ len = 2
    | .lload_n k => (k : Nat) = a ∧ len = 1
    | .aload k => k = a ∧ len = 2
    | .aload_n k => (k : Nat) = a ∧ len = 1
    | .istore k => k = a ∧ len = 2 ∧ a < nL
    | .istore_n k => (k : Nat) = a ∧ len = 1 ∧ a < nL
    | .lstore k => k = a ∧ len = 2 ∧ a + 1 < nL
    | .lstore_n k => (k : Nat) = a ∧ len = 1 ∧ a + 1 < nL
    | .astore k => k = a ∧ len = 2 ∧ a < nL
    | .astore_n k => (k : Nat) = a ∧ len = 1 ∧ a < nL
    | .iinc k n => k = a ∧ len = 3 ∧ a < nL ∧ zconOK (fun v => n = v) tab
    | .iconst n => len = 1 ∧ zconOK (fun v => n = v ∧ zin v) tab
    | .bipush n => len = 2 ∧ zconOK (fun v => (Int8.ofInt n).toInt32 = Int32.ofInt v ∧ zin v) tab
    | .sipush n => len = 3 ∧ zconOK (fun v => (Int16.ofInt n).toInt32 = Int32.ofInt v ∧ zin v) tab
    | .ldc k => len = 2 ∧ zconOK (fun v => Jvm.Cond.constant own k (Int32.ofInt v) ∈ lw_tbl ∧ zin v) tab
    | .ldc_w k => len = 3 ∧ zconOK (fun v => Jvm.Cond.constant own k (Int32.ofInt v) ∈ lw_tbl ∧ zin v) tab
    | .lconst n => len = 1 ∧ zconOK (fun v => Int64.ofNat (n : Nat) = Int64.ofInt v ∧ zinl v) tab
    | .ldc2_w k => len = 3 ∧ zconOK (fun v => Jvm.Cond.constantLong own k (Int64.ofInt v) ∈ lw_tbl ∧ zinl v) tab
    | .goto o => len = 3 ∧ (pc : Int) + o = a
    | .if_icmp _ o => len = 3 ∧ (pc : Int) + o = a
    | .ifCond _ o => len = 3 ∧ (pc : Int) + o = a
    | .tableswitch dflt lo hi offs => (pc : Int) + dflt = d ∧ ztabOK pc lo offs.toList tab ∧ hi + 1 = lo + offs.size
    | .lookupswitch dflt ps => (pc : Int) + dflt = d ∧ zlkpOK pc ps.toList tab ∧ (ps.toList.zip (ps.toList.drop 1)).all (fun (a, next) => a.1 < next.1) = true
    | .getfield k => len = 3 ∧ zfldOK own k a b
    | .putfield k => len = 3 ∧ zputOK own nm k a b c
    | .getstatic k => len = 3 ∧ b = 1000 + a ∧ ∃ nm', zstat[a]? = some nm' ∧ Jvm.Cond.fieldLink own k RX8 nm' "[I" ∈ lw_tbl
    | .newarray t => len = 2 ∧ ((a = 0 ∧ t = .int) ∨ (a = 1 ∧ t = .long))
    | .anewarray k => len = 3 ∧ Jvm.Cond.classLink own k RX7 ∈ lw_tbl
    | .new k => len = 3 ∧ ∃ (C : String) (T : u_T) (N : Nat) (ty : Nat → FieldType), vwCl[a]? = some (C, T, N) ∧ zTys[a]? = some (ty, N) ∧ (∀ k, k < N → parseFieldDescriptor (T k).2.2.1 = some (ty k)) ∧ (∀ k, k < N → defaultValue (ty k) = .int 0 ∧ (ty k = .int ∨ ty k = .boolean) ∨ defaultValue (ty k) = .null ∧ (¬ ty k = .int ∧ ¬ ty k = .boolean)) ∧ Jvm.Cond.classLink own k C ∈ lw_tbl ∧ Jvm.Cond.instantiable C N ∈ lw_tbl ∧ Jvm.Cond.initialized C ∈ lw_tbl
    | .invokevirtual k => len = 3 ∧ zvirOK MT own k a b d
    | .invokestatic k => len = 3 ∧ match a with
      | 1001 => Jvm.Cond.methodLink own k Lib.Math.max.name ∈ lw_tbl
      | 1002 => Jvm.Cond.methodLink own k Lib.Math.min.name ∈ lw_tbl
      | 1003 => Jvm.Cond.methodLink own k arraycopyName ∈ lw_tbl
      | _ => zsttOK MT own k a b
    | .invokespecial k => len = 3 ∧ match a with
      | 1000 => Jvm.Cond.methodLink own k Lib.objectInit ∈ lw_tbl
      | _ => ziniOK MT own k a b d
    | .ireturn => len = 1 ∧ ((a = 0 ∧ ret = some .int) ∨ (a = 1 ∧ ret = some .boolean))
    | .lreturn => len = 1 ∧ ret = some .long
    | .areturn => len = 1 ∧ ∃ rt, ret = some rt ∧ ((∃ n, rt = .object n) ∨ ∃ t, rt = .array t)
    | .return_ => len = 1 ∧ ret = none
    | _ => len = 1
-- what the helpers say
theorem zli_some {ls : zL} {a : Nat} {k : Int → Option zR} {r : zR} (h : zli ls a k = some r) : ∃ x, ls[a]? = some (some (.inr (.inl x))) ∧ k x = some r := by
  unfold zli at h
  split at h
  · next x e => exact ⟨x, e, h⟩
  · cases h
theorem zll_some {ls : zL} {a : Nat} {k : Int → Option zR} {r : zR} (h : zll ls a k = some r) : ∃ x, ls[a]? = some (some (.inr (.inr x))) ∧ k x = some r := by
  unfold zll at h
  split at h
  · next x e => exact ⟨x, e, h⟩
  · cases h
theorem zlr_some {ls : zL} {a : Nat} {k : Nat → Option zR} {r : zR} (h : zlr ls a k = some r) : ∃ x, ls[a]? = some (some (.inl (some x))) ∧ k x = some r := by
  unfold zlr at h
  split at h
  · next x e => exact ⟨x, e, h⟩
  · cases h
theorem zI1_some {st : List zV} {k : Int → List zV → Option zR} {r : zR} (h : zI1 st k = some r) : ∃ x q, st = .inr (.inl x) :: q ∧ k x q = some r := by
  unfold zI1 at h
  split at h
  · next x q => exact ⟨x, q, rfl, h⟩
  · cases h
theorem zJ1_some {st : List zV} {k : Int → List zV → Option zR} {r : zR} (h : zJ1 st k = some r) : ∃ x q, st = .inr (.inr x) :: q ∧ k x q = some r := by
  unfold zJ1 at h
  split at h
  · next x q => exact ⟨x, q, rfl, h⟩
  · cases h
theorem zR1_some {st : List zV} {k : Nat → List zV → Option zR} {r : zR} (h : zR1 st k = some r) : ∃ x q, st = .inl (some x) :: q ∧ k x q = some r := by
  unfold zR1 at h
  split at h
  · next x q => exact ⟨x, q, rfl, h⟩
  · cases h
theorem zI2_some {st : List zV} {k : Int → Int → List zV → Option zR} {r : zR} (h : zI2 st k = some r) : ∃ x y q, st = .inr (.inl y) :: .inr (.inl x) :: q ∧ k x y q = some r := by
  unfold zI2 at h
  split at h
  · next y x q => exact ⟨x, y, q, rfl, h⟩
  · cases h
theorem zJ2_some {st : List zV} {k : Int → Int → List zV → Option zR} {r : zR} (h : zJ2 st k = some r) : ∃ x y q, st = .inr (.inr y) :: .inr (.inr x) :: q ∧ k x y q = some r := by
  unfold zJ2 at h
  split at h
  · next y x q => exact ⟨x, y, q, rfl, h⟩
  · cases h
theorem zJI_some {st : List zV} {k : Int → Int → List zV → Option zR} {r : zR} (h : zJI st k = some r) : ∃ x y q, st = .inr (.inl y) :: .inr (.inr x) :: q ∧ k x y q = some r := by
  unfold zJI at h
  split at h
  · next y x q => exact ⟨x, y, q, rfl, h⟩
  · cases h
theorem zbif_some {p : Bool} {x : Option zR} {r : zR} (h : (bif p then x else none) = some r) : p = true ∧ x = some r := by
  cases p
  · cases h
  · exact ⟨rfl, h⟩
theorem zV1_some {st : List zV} {k : zV → List zV → Option zR} {r : zR} (h : zV1 st k = some r) : ∃ v q, st = v :: q ∧ zcat v = 1 ∧ k v q = some r := by
  unfold zV1 at h
  split at h
  · next v q =>
    obtain ⟨h1, h2⟩ := zbif_some h
    exact ⟨v, q, rfl, Nat.eq_of_beq_eq_true h1, h2⟩
  · cases h
theorem zV2_some {st : List zV} {k : zV → zV → List zV → Option zR} {r : zR} (h : zV2 st k = some r) : ∃ v w q, st = v :: w :: q ∧ zcat v = 1 ∧ zcat w = 1 ∧ k v w q = some r := by
  unfold zV2 at h
  split at h
  · next v w q =>
    obtain ⟨h1, h2⟩ := zbif_some h
    rw [Bool.and_eq_true] at h1
    exact ⟨v, w, q, rfl, Nat.eq_of_beq_eq_true h1.1, Nat.eq_of_beq_eq_true h1.2, h2⟩
  · cases h
theorem zcon_some {tab : List (Int × Nat)} {k : Int → Option zR} {r : zR} (h : zcon tab k = some r) : ∃ v t q, tab = (v, t) :: q ∧ k v = some r := by
  unfold zcon at h
  split at h
  · next v t q => exact ⟨v, t, q, rfl, h⟩
  · cases h
theorem zite_none {p : Prop} [Decidable p] {x : Option zR} {r : zR} (h : (if p then x else none) = some r) : p ∧ x = some r := by
  split at h
  · next hp => exact ⟨hp, h⟩
  · cases h
theorem zfld_some {L : List zS} {o a b : Nat} {kI : Option zR} {kR : Nat → Option zR} {r : zR} (h : zfld L o a b kI kR = some r) : ∃ fs, L[o]? = some (.inr (a, fs)) ∧ ((fs[b]? = some none ∧ kI = some r) ∨ ∃ t, fs[b]? = some (some (some t)) ∧ kR t = some r) := by
  unfold zfld at h
  split at h
  · next ci fs e =>
    obtain ⟨h1, h2⟩ := zbif_some h
    have : ci = a := Nat.eq_of_beq_eq_true h1
    subst this
    refine ⟨fs, e, ?_⟩
    split at h2
    · next e2 => exact Or.inl ⟨e2, h2⟩
    · next t e2 => exact Or.inr ⟨t, e2, h2⟩
    · cases h2
  · cases h
theorem zar_some {L : List zS} {tag o : Nat} {i : Int} {k : Option zR} {r : zR} (h : zar L tag o i k = some r) : ∃ n ts, L[o]? = some (.inl (tag, n, ts)) ∧ 0 ≤ i ∧ i < (n : Int) ∧ k = some r := by
  unfold zar at h
  split at h
  · next t n ts e =>
    obtain ⟨h1, h2⟩ := zbif_some h
    have : t = tag := Nat.eq_of_beq_eq_true h1
    subst this
    obtain ⟨h3, h4⟩ := zite_none h2
    exact ⟨n, ts, e, h3.1, h3.2, h4⟩
  · cases h
theorem zia_some {X : zX} {L : List zS} {σ : zF} {o : Nat} {i : Int} {k : Int → Option zR} {r : zR} (h : zia X L σ o i k = some r) : (∃ n ts, L[o]? = some (.inl (0, n, ts)) ∧ 0 ≤ i ∧ i < (n : Int) ∧ k (σ o i) = some r) ∨ ∃ n f, 1000 ≤ o ∧ X[o - 1000]? = some (n, f) ∧ 0 ≤ i ∧ i < (n : Int) ∧ k (f i.toNat) = some r := by
  unfold zia at h
  split at h
  · next n ts e =>
    obtain ⟨h3, h4⟩ := zite_none h
    exact Or.inl ⟨n, ts, e, h3.1, h3.2, h4⟩
  · cases h
  · cases hb : Nat.blt o 1000
    · rw [hb] at h
      simp only [cond_false] at h
      split at h
      · next n f e =>
        obtain ⟨h3, h4⟩ := zite_none h
        refine Or.inr ⟨n, f, ?_, e, h3.1, h3.2, h4⟩
        rcases Nat.lt_or_ge o 1000 with q | q
        · rw [show Nat.blt o 1000 = true from by rw [Nat.blt_eq]; exact q] at hb
          cases hb
        · exact q
      · cases h
    · rw [hb] at h
      cases h
theorem zlen_some {X : zX} {L : List zS} {o : Nat} {k : Nat → Option zR} {r : zR} (h : zlen X L o k = some r) : (∃ t n ts, L[o]? = some (.inl (t, n, ts)) ∧ k n = some r) ∨ ∃ n f, 1000 ≤ o ∧ X[o - 1000]? = some (n, f) ∧ k n = some r := by
  unfold zlen at h
  split at h
  · next t n ts e => exact Or.inl ⟨t, n, ts, e, h⟩
  · cases h
  · cases hb : Nat.blt o 1000
    · rw [hb] at h
      simp only [cond_false] at h
      split at h
      · next n f e =>
        refine Or.inr ⟨n, f, ?_, e, h⟩
        rcases Nat.lt_or_ge o 1000 with q | q
        · rw [show Nat.blt o 1000 = true from by rw [Nat.blt_eq]; exact q] at hb
          cases hb
        · exact q
      · cases h
    · rw [hb] at h
      cases h
theorem zaa_some {L : List zS} {o : Nat} {i : Int} {k : Nat → Option zR} {r : zR} (h : zaa L o i k = some r) : ∃ n ts t, L[o]? = some (.inl (2, n, ts)) ∧ 0 ≤ i ∧ i < (n : Int) ∧ ts[i.toNat]? = some (some t) ∧ k t = some r := by
  unfold zaa at h
  split at h
  · next n ts e =>
    obtain ⟨h3, h4⟩ := zite_none h
    split at h4
    · next t e2 => exact ⟨n, ts, t, e, h3.1, h3.2, e2, h4⟩
    · cases h4
  · cases h
theorem zcls_some {L : List zS} {o ci : Nat} (h : zcls L o ci = true) : ∃ fs, L[o]? = some (.inr (ci, fs)) := by
  unfold zcls at h
  split at h
  · next c fs e =>
    have : c = ci := Nat.eq_of_beq_eq_true h
    subst this
    exact ⟨fs, e⟩
  · cases h
theorem zC_some {kind : Nat} {L : List zS} {o : Option zR} {k : List zV → zF → Option zR} {r : zR} (h : zC kind L o k = some r) : ∃ v σ', o = some (v, (L, σ')) ∧ k v.toList σ' = some r ∧ ¬ v = some (.inl none) := by
  unfold zC at h
  split at h
  · unfold zCV at h
    split at h
    · next L' σ' =>
      obtain ⟨h1, h2⟩ := zite_none h
      subst h1
      exact ⟨none, σ', rfl, h2, by simp⟩
    · cases h
  · unfold zCI at h
    split at h
    · next i L' σ' =>
      obtain ⟨h1, h2⟩ := zite_none h
      subst h1
      exact ⟨_, σ', rfl, h2, by simp⟩
    · cases h
  · unfold zCJ at h
    split at h
    · next i L' σ' =>
      obtain ⟨h1, h2⟩ := zite_none h
      subst h1
      exact ⟨_, σ', rfl, h2, by simp⟩
    · cases h
  · unfold zCR at h
    split at h
    · next i L' σ' =>
      obtain ⟨h1, h2⟩ := zite_none h
      subst h1
      exact ⟨_, σ', rfl, h2, by simp⟩
    · cases h
  · cases h
theorem zCN_some {o : Option zR} {k : zH → Option zR} {r : zR} (h : zCN o k = some r) : ∃ q, o = some (none, q) ∧ k q = some r := by
  unfold zCN at h
  split at h
  · next q => exact ⟨q, rfl, h⟩
  · cases h
end
section
/-! words of the tables, by their places -/
theorem zW_arri : Jvm.Cond.arrayClass .int ∈ zTb := zTb_in (List.mem_of_getElem? (i := 170) (by decide +kernel)) rfl
theorem zW_arrj : Jvm.Cond.arrayClass .long ∈ zTb := zTb_in (List.mem_of_getElem? (i := 457) (by decide +kernel)) rfl
theorem zW_nat : Jvm.Cond.native arraycopyName ∈ zTb := zTb_in (List.mem_of_getElem? (i := 577) (by decide +kernel)) rfl
theorem zW_arcst : Jvm.Cond.static arraycopyName ∈ zTb := zTb_in (List.mem_of_getElem? (i := 576) (by decide +kernel)) rfl
theorem zW_isys : Jvm.Cond.initialized "java/lang/System" ∈ zTb := zTb_in (List.mem_of_getElem? (i := 97) (by decide +kernel)) rfl
theorem zW_imath : Jvm.Cond.initialized "java/lang/Math" ∈ zTb := zTb_in (List.mem_of_getElem? (i := 98) (by decide +kernel)) rfl
theorem zW_maxst : Jvm.Cond.static Lib.Math.max.name ∈ zTb := zTb_in (List.mem_of_getElem? (i := 713) (by decide +kernel)) rfl
theorem zW_minst : Jvm.Cond.static Lib.Math.min.name ∈ zTb := zTb_in (List.mem_of_getElem? (i := 648) (by decide +kernel)) rfl
theorem zW_maxc : Jvm.Cond.code Lib.Math.max.name Lib.Math.max.code 2 (some .int) ∈ zTb := zTb_in (List.mem_of_getElem? (i := 714) (by decide +kernel)) rfl
theorem zW_minc : Jvm.Cond.code Lib.Math.min.name Lib.Math.min.code 2 (some .int) ∈ zTb := zTb_in (List.mem_of_getElem? (i := 649) (by decide +kernel)) rfl
theorem zW_oini : Jvm.Cond.instanceMethod Lib.objectInit ∈ zTb := zTb_in (List.mem_of_getElem? (i := 107) (by decide +kernel)) rfl
theorem zW_oinc : Jvm.Cond.code Lib.objectInit ⟨#[0xb1]⟩ 1 none ∈ zTb := zTb_in (List.mem_of_getElem? (i := 108) (by decide +kernel)) rfl
def zFp0 : List Nat := [356, 358, 360, 362, 364, 366, 368]
theorem zFw0 : ∀ k, k < 7 → lw_tbl[(zFp0.getD k 0)]? = some (u_lay RX0 TX0 k) := by decide +kernel
theorem zF0 : ∀ w ∈ u_ws RX0 TX0 7, w ∈ zTb := by
  intro w hw
  obtain ⟨k, hk, rfl⟩ := List.mem_map.mp hw
  have hk := List.mem_range.mp hk
  exact zTb_in (List.mem_of_getElem? (zFw0 k hk)) (by unfold u_lay; split <;> rfl)
def zFp1 : List Nat := [385, 387, 389, 391, 393, 395, 397]
theorem zFw1 : ∀ k, k < 7 → lw_tbl[(zFp1.getD k 0)]? = some (u_lay RX1 TX1 k) := by decide +kernel
theorem zF1 : ∀ w ∈ u_ws RX1 TX1 7, w ∈ zTb := by
  intro w hw
  obtain ⟨k, hk, rfl⟩ := List.mem_map.mp hw
  have hk := List.mem_range.mp hk
  exact zTb_in (List.mem_of_getElem? (zFw1 k hk)) (by unfold u_lay; split <;> rfl)
def zFp2 : List Nat := [209, 211, 213, 215]
theorem zFw2 : ∀ k, k < 4 → lw_tbl[(zFp2.getD k 0)]? = some (u_lay RX2 TX2 k) := by decide +kernel
theorem zF2 : ∀ w ∈ u_ws RX2 TX2 4, w ∈ zTb := by
  intro w hw
  obtain ⟨k, hk, rfl⟩ := List.mem_map.mp hw
  have hk := List.mem_range.mp hk
  exact zTb_in (List.mem_of_getElem? (zFw2 k hk)) (by unfold u_lay; split <;> rfl)
def zFp3 : List Nat := [147, 149, 151, 153, 155, 157, 159, 161, 163, 165, 167]
theorem zFw3 : ∀ k, k < 11 → lw_tbl[(zFp3.getD k 0)]? = some (u_lay RX3 TX3 k) := by decide +kernel
theorem zF3 : ∀ w ∈ u_ws RX3 TX3 11, w ∈ zTb := by
  intro w hw
  obtain ⟨k, hk, rfl⟩ := List.mem_map.mp hw
  have hk := List.mem_range.mp hk
  exact zTb_in (List.mem_of_getElem? (zFw3 k hk)) (by unfold u_lay; split <;> rfl)
def zFp4 : List Nat := [186, 188, 190, 192, 194, 196]
theorem zFw4 : ∀ k, k < 6 → lw_tbl[(zFp4.getD k 0)]? = some (u_lay RX4 TX4 k) := by decide +kernel
theorem zF4 : ∀ w ∈ u_ws RX4 TX4 6, w ∈ zTb := by
  intro w hw
  obtain ⟨k, hk, rfl⟩ := List.mem_map.mp hw
  have hk := List.mem_range.mp hk
  exact zTb_in (List.mem_of_getElem? (zFw4 k hk)) (by unfold u_lay; split <;> rfl)
def zFp5 : List Nat := [303, 305, 307, 309, 311, 313]
theorem zFw5 : ∀ k, k < 6 → lw_tbl[(zFp5.getD k 0)]? = some (u_lay RX5 TX5 k) := by decide +kernel
theorem zF5 : ∀ w ∈ u_ws RX5 TX5 6, w ∈ zTb := by
  intro w hw
  obtain ⟨k, hk, rfl⟩ := List.mem_map.mp hw
  have hk := List.mem_range.mp hk
  exact zTb_in (List.mem_of_getElem? (zFw5 k hk)) (by unfold u_lay; split <;> rfl)
def zFp6 : List Nat := [276, 278, 280, 282, 284, 286]
theorem zFw6 : ∀ k, k < 6 → lw_tbl[(zFp6.getD k 0)]? = some (u_lay RX6 TX6 k) := by decide +kernel
theorem zF6 : ∀ w ∈ u_ws RX6 TX6 6, w ∈ zTb := by
  intro w hw
  obtain ⟨k, hk, rfl⟩ := List.mem_map.mp hw
  have hk := List.mem_range.mp hk
  exact zTb_in (List.mem_of_getElem? (zFw6 k hk)) (by unfold u_lay; split <;> rfl)
def zFp7 : List Nat := [448, 450, 452, 454]
theorem zFw7 : ∀ k, k < 4 → lw_tbl[(zFp7.getD k 0)]? = some (u_lay RX7 TX7 k) := by decide +kernel
theorem zF7 : ∀ w ∈ u_ws RX7 TX7 4, w ∈ zTb := by
  intro w hw
  obtain ⟨k, hk, rfl⟩ := List.mem_map.mp hw
  have hk := List.mem_range.mp hk
  exact zTb_in (List.mem_of_getElem? (zFw7 k hk)) (by unfold u_lay; split <;> rfl)
def zFp8 : List Nat := [416, 418, 420, 422, 424, 426]
theorem zFw8 : ∀ k, k < 6 → lw_tbl[(zFp8.getD k 0)]? = some (u_lay RX8 TX8 k) := by decide +kernel
theorem zF8 : ∀ w ∈ u_ws RX8 TX8 6, w ∈ zTb := by
  intro w hw
  obtain ⟨k, hk, rfl⟩ := List.mem_map.mp hw
  have hk := List.mem_range.mp hk
  exact zTb_in (List.mem_of_getElem? (zFw8 k hk)) (by unfold u_lay; split <;> rfl)
def zFp9 : List Nat := [240, 242, 244, 246, 248, 250, 252, 254, 256, 258]
theorem zFw9 : ∀ k, k < 10 → lw_tbl[(zFp9.getD k 0)]? = some (u_lay RX9 TX9 k) := by decide +kernel
theorem zF9 : ∀ w ∈ u_ws RX9 TX9 10, w ∈ zTb := by
  intro w hw
  obtain ⟨k, hk, rfl⟩ := List.mem_map.mp hw
  have hk := List.mem_range.mp hk
  exact zTb_in (List.mem_of_getElem? (zFw9 k hk)) (by unfold u_lay; split <;> rfl)
def zFp10 : List Nat := [330, 332, 334, 336, 338]
theorem zFw10 : ∀ k, k < 5 → lw_tbl[(zFp10.getD k 0)]? = some (u_lay RX10 TX10 k) := by decide +kernel
theorem zF10 : ∀ w ∈ u_ws RX10 TX10 5, w ∈ zTb := by
  intro w hw
  obtain ⟨k, hk, rfl⟩ := List.mem_map.mp hw
  have hk := List.mem_range.mp hk
  exact zTb_in (List.mem_of_getElem? (zFw10 k hk)) (by unfold u_lay; split <;> rfl)
def zFp11 : List Nat := [469, 471, 473, 475, 477, 479, 481, 483, 485, 487, 489]
theorem zFw11 : ∀ k, k < 11 → lw_tbl[(zFp11.getD k 0)]? = some (u_lay RX11 TX11 k) := by decide +kernel
theorem zF11 : ∀ w ∈ u_ws RX11 TX11 11, w ∈ zTb := by
  intro w hw
  obtain ⟨k, hk, rfl⟩ := List.mem_map.mp hw
  have hk := List.mem_range.mp hk
  exact zTb_in (List.mem_of_getElem? (zFw11 k hk)) (by unfold u_lay; split <;> rfl)
def zFp12 : List Nat := [1173, 1175, 1177, 1179, 1181, 1183, 1185, 1187, 1189, 1191, 1193, 1195, 1197, 1199, 1201, 1203, 1205, 1207, 1209, 1211, 1213, 1215, 1217, 1219, 1221, 1223, 1225, 1227, 1229, 1231, 1233, 1235, 1237, 1239, 1241, 1243, 1245, 1247, 1249, 1251, 1253, 1255, 1257, 1259, 1261, 1263, 1265, 1267, 1269, 1271, 1273, 1275, 1277, 1279, 1281, 1283]
theorem zFw12 : ∀ k, k < 56 → lw_tbl[(zFp12.getD k 0)]? = some (u_lay RX12 TX12 k) := by decide +kernel
theorem zF12 : ∀ w ∈ u_ws RX12 TX12 56, w ∈ zTb := by
  intro w hw
  obtain ⟨k, hk, rfl⟩ := List.mem_map.mp hw
  have hk := List.mem_range.mp hk
  exact zTb_in (List.mem_of_getElem? (zFw12 k hk)) (by unfold u_lay; split <;> rfl)
theorem zF_all : ∀ (a : Nat) (C : String) (T : u_T) (N : Nat), vwCl[a]? = some (C, T, N) → ∀ w ∈ u_ws C T N, w ∈ zTb := by
  intro a C T N h
  match a, h with
  | 0, h => cases h; exact zF0
  | 1, h => cases h; exact zF1
  | 2, h => cases h; exact zF2
  | 3, h => cases h; exact zF3
  | 4, h => cases h; exact zF4
  | 5, h => cases h; exact zF5
  | 6, h => cases h; exact zF6
  | 7, h => cases h; exact zF7
  | 8, h => cases h; exact zF8
  | 9, h => cases h; exact zF9
  | 10, h => cases h; exact zF10
  | 11, h => cases h; exact zF11
  | 12, h => cases h; exact zF12
  | n + 13, h => simp [vwCl] at h
theorem zTy_all : ∀ (a : Nat) (C : String) (T : u_T) (N : Nat), vwCl[a]? = some (C, T, N) → ∃ ty : Nat → FieldType, zTys[a]? = some (ty, N) ∧ (∀ k, k < N → parseFieldDescriptor (T k).2.2.1 = some (ty k)) ∧ ∀ a, a < N → ∀ b, b < N → a ≠ b → (T a).2.1 ≠ (T b).2.1 := by
  intro a C T N h
  match a, h with
  | 0, h => cases h; exact ⟨tyX0, rfl, tyX0_ok, nmX0⟩
  | 1, h => cases h; exact ⟨tyX1, rfl, tyX1_ok, nmX1⟩
  | 2, h => cases h; exact ⟨tyX2, rfl, tyX2_ok, nmX2⟩
  | 3, h => cases h; exact ⟨tyX3, rfl, tyX3_ok, nmX3⟩
  | 4, h => cases h; exact ⟨tyX4, rfl, tyX4_ok, nmX4⟩
  | 5, h => cases h; exact ⟨tyX5, rfl, tyX5_ok, nmX5⟩
  | 6, h => cases h; exact ⟨tyX6, rfl, tyX6_ok, nmX6⟩
  | 7, h => cases h; exact ⟨tyX7, rfl, tyX7_ok, nmX7⟩
  | 8, h => cases h; exact ⟨tyX8, rfl, tyX8_ok, nmX8⟩
  | 9, h => cases h; exact ⟨tyX9, rfl, tyX9_ok, nmX9⟩
  | 10, h => cases h; exact ⟨tyX10, rfl, tyX10_ok, nmX10⟩
  | 11, h => cases h; exact ⟨tyX11, rfl, tyX11_ok, nmX11⟩
  | 12, h => cases h; exact ⟨tyX12, rfl, tyX12_ok, nmX12⟩
  | n + 13, h => simp [vwCl] at h
end
section
/-! soundness of one step, calls apart -/
section
variable {p : Program} {l : Launch} {e : Env} {R : Room} {s : State} {m : MethodId} {args : Array Value} {below : List Frame} {meth : Method} {c : Code} {Q : State → Prop} {D : va_G} {as0 ea : Nat → Nat} {A : Nat → Prop} {nL : Nat} {L0 : List zS} {cc : ByteArray} {own nm : String} {X : zX} {r : zR} {K : zK} {pc : Nat} {ls : zL} {st : List zV} {L : List zS} {σ : zF} {ret : Option FieldType}
theorem zad_lt {as ea : Nat → Nat} {L : List zS} {σ : zF} {o : Nat} {x : zS} (hok : zHok L σ) (h : L[o]? = some x) : zad as ea o = as o := by
  have h1 := (List.getElem?_eq_some_iff.mp h).1
  have h2 := hok.2
  unfold zad
  rw [if_pos (by omega)]
theorem zad_ge {as ea : Nat → Nat} {o : Nat} (h : 1000 ≤ o) : zad as ea o = ea (o - 1000) := by
  unfold zad
  rw [if_neg (by omega)]
theorem zv_cons {n : Nat} {v : zV} {st : List zV} (h : zvok n v) (hs : ∀ w ∈ st, zvok n w) : ∀ w ∈ v :: st, zvok n w := fun w hw => (List.mem_cons.mp hw).elim (fun q => q ▸ h) (hs w)
theorem zv_hd {n : Nat} {v : zV} {st : List zV} (h : ∀ w ∈ v :: st, zvok n w) : zvok n v := h v List.mem_cons_self
theorem zv_tl {n : Nat} {v : zV} {st : List zV} (h : ∀ w ∈ v :: st, zvok n w) : ∀ w ∈ st, zvok n w := fun w hw => h w (List.mem_cons_of_mem _ hw)
theorem zget_some {as ea : Nat → Nat} {cas : Nat → ClassId} {L : List zS} {σ : zF} {k : Nat} {x : zS} (h : L[k]? = some x) : (zws as ea cas L σ)[k]? = some (as k, zcell (zad as ea) (cas k) (σ k) x) := by
  rw [zws_get, h]
  rfl
theorem znum_i {L : List zS} {σ : zF} {o n : Nat} {ts : List (Option Nat)} (hok : zHok L σ) (h : L[o]? = some (.inl (0, n, ts))) (i : Int) : zin (σ o i) := (hok.1 o _ h).2 i
theorem znum_j {L : List zS} {σ : zF} {o n : Nat} {ts : List (Option Nat)} (hok : zHok L σ) (h : L[o]? = some (.inl (1, n, ts))) (i : Int) : zinl (σ o i) := (hok.1 o _ h).2 i
theorem znum_f {L : List zS} {σ : zF} {o n : Nat} {fs : List (Option (Option Nat))} (hok : zHok L σ) (h : L[o]? = some (.inr (n, fs))) (i : Int) : zin (σ o i) := (hok.1 o _ h).2 i
abbrev zHyp (p : Program) (l : Launch) (e : Env) (R : Room) (s : State) (m : MethodId) (args : Array Value) (below : List Frame) (meth : Method) (c : Code) (Q : State → Prop) (D : va_G) (as0 ea : Nat → Nat) (A : Nat → Prop) (nL : Nat) (L0 : List zS) (K : zK) (r : zR) : Prop := ∀ (pc : Nat) (ls : zL) (st : List zV) (h : zH), K pc ls st h = some r → zle h.1 r.2.1 ∧ zG p l e R s m args below meth c Q D as0 ea A nL L0 pc ls st h
theorem zs_iload (C0 : zCtx p s m args c cc nL own A ea X) (hK : zHyp p l e R s m args below meth c Q D as0 ea A nL L0 K r) {a : Nat} (hd : decode cc pc = .ok (.iload a, 2)) (h : (zli ls a fun x => K (pc + 2) ls (.inr (.inl x) :: st) (L, σ)) = some r) : zG p l e R s m args below meth c Q D as0 ea A nL L0 pc ls st (L, σ) := by
  obtain ⟨hx, hb, hml, hown, hts, hA, hE, hN⟩ := C0
  obtain ⟨x, e, hk⟩ := zli_some h
  intro as cas tys H locs lsA hw ha hl hst hle
  exact lv_iload hx hb hd (hl.at e) ((hK _ _ _ _ hk).2 as cas tys H locs lsA hw ha hl (zv_cons (hl.2.2 _ _ e).2 hst) hle)
theorem zs_iload_n (C0 : zCtx p s m args c cc nL own A ea X) (hK : zHyp p l e R s m args below meth c Q D as0 ea A nL L0 K r) {a : Nat} {n : Fin 4} (hn : (n : Nat) = a) (hd : decode cc pc = .ok (.iload_n n, 1)) (h : (zli ls a fun x => K (pc + 1) ls (.inr (.inl x) :: st) (L, σ)) = some r) : zG p l e R s m args below meth c Q D as0 ea A nL L0 pc ls st (L, σ) := by
  obtain ⟨hx, hb, hml, hown, hts, hA, hE, hN⟩ := C0
  obtain ⟨x, e, hk⟩ := zli_some h
  intro as cas tys H locs lsA hw ha hl hst hle
  exact lv_iload_n hx hb hd hn (hl.at e) ((hK _ _ _ _ hk).2 as cas tys H locs lsA hw ha hl (zv_cons (hl.2.2 _ _ e).2 hst) hle)
theorem zs_lload (C0 : zCtx p s m args c cc nL own A ea X) (hK : zHyp p l e R s m args below meth c Q D as0 ea A nL L0 K r) {a : Nat} (hd : decode cc pc = .ok (.lload a, 2)) (h : (zll ls a fun x => K (pc + 2) ls (.inr (.inr x) :: st) (L, σ)) = some r) : zG p l e R s m args below meth c Q D as0 ea A nL L0 pc ls st (L, σ) := by
  obtain ⟨hx, hb, hml, hown, hts, hA, hE, hN⟩ := C0
  obtain ⟨x, e, hk⟩ := zll_some h
  intro as cas tys H locs lsA hw ha hl hst hle
  exact lv_lload hx hb hd (hl.at e) ((hK _ _ _ _ hk).2 as cas tys H locs lsA hw ha hl (zv_cons (hl.2.2 _ _ e).2 hst) hle)
theorem zs_lload_n (C0 : zCtx p s m args c cc nL own A ea X) (hK : zHyp p l e R s m args below meth c Q D as0 ea A nL L0 K r) {a : Nat} {n : Fin 4} (hn : (n : Nat) = a) (hd : decode cc pc = .ok (.lload_n n, 1)) (h : (zll ls a fun x => K (pc + 1) ls (.inr (.inr x) :: st) (L, σ)) = some r) : zG p l e R s m args below meth c Q D as0 ea A nL L0 pc ls st (L, σ) := by
  obtain ⟨hx, hb, hml, hown, hts, hA, hE, hN⟩ := C0
  obtain ⟨x, e, hk⟩ := zll_some h
  intro as cas tys H locs lsA hw ha hl hst hle
  exact lv_lload_n hx hb hd hn (hl.at e) ((hK _ _ _ _ hk).2 as cas tys H locs lsA hw ha hl (zv_cons (hl.2.2 _ _ e).2 hst) hle)
theorem zs_aload (C0 : zCtx p s m args c cc nL own A ea X) (hK : zHyp p l e R s m args below meth c Q D as0 ea A nL L0 K r) {a : Nat} (hd : decode cc pc = .ok (.aload a, 2)) (h : (zlr ls a fun x => K (pc + 2) ls (.inl (some x) :: st) (L, σ)) = some r) : zG p l e R s m args below meth c Q D as0 ea A nL L0 pc ls st (L, σ) := by
  obtain ⟨hx, hb, hml, hown, hts, hA, hE, hN⟩ := C0
  obtain ⟨x, e, hk⟩ := zlr_some h
  intro as cas tys H locs lsA hw ha hl hst hle
  exact lv_aload hx hb hd (hl.at e) ((hK _ _ _ _ hk).2 as cas tys H locs lsA hw ha hl (zv_cons (hl.2.2 _ _ e).2 hst) hle)
theorem zs_aload_n (C0 : zCtx p s m args c cc nL own A ea X) (hK : zHyp p l e R s m args below meth c Q D as0 ea A nL L0 K r) {a : Nat} {n : Fin 4} (hn : (n : Nat) = a) (hd : decode cc pc = .ok (.aload_n n, 1)) (h : (zlr ls a fun x => K (pc + 1) ls (.inl (some x) :: st) (L, σ)) = some r) : zG p l e R s m args below meth c Q D as0 ea A nL L0 pc ls st (L, σ) := by
  obtain ⟨hx, hb, hml, hown, hts, hA, hE, hN⟩ := C0
  obtain ⟨x, e, hk⟩ := zlr_some h
  intro as cas tys H locs lsA hw ha hl hst hle
  exact lv_aload_n hx hb hd hn (hl.at e) ((hK _ _ _ _ hk).2 as cas tys H locs lsA hw ha hl (zv_cons (hl.2.2 _ _ e).2 hst) hle)
theorem zs_istore (C0 : zCtx p s m args c cc nL own A ea X) (hK : zHyp p l e R s m args below meth c Q D as0 ea A nL L0 K r) {a : Nat} (hL : a < nL) (hd : decode cc pc = .ok (.istore a, 2)) (h : (zI1 st fun x q => K (pc + 2) (zst1 ls a (.inr (.inl x))) q (L, σ)) = some r) : zG p l e R s m args below meth c Q D as0 ea A nL L0 pc ls st (L, σ) := by
  obtain ⟨hx, hb, hml, hown, hts, hA, hE, hN⟩ := C0
  obtain ⟨x, q, e, hk⟩ := zI1_some h
  subst e
  intro as cas tys H locs lsA hw ha hl hst hle
  exact lv_istore hx hb hd hl.has hL rfl (fun ls' h' => (hK _ _ _ _ hk).2 as cas tys H locs ls' hw ha (zLc_st1 hl (zv_hd hst) h') (zv_tl hst) hle)
theorem zs_istore_n (C0 : zCtx p s m args c cc nL own A ea X) (hK : zHyp p l e R s m args below meth c Q D as0 ea A nL L0 K r) {a : Nat} {n : Fin 4} (hn : (n : Nat) = a) (hL : a < nL) (hd : decode cc pc = .ok (.istore_n n, 1)) (h : (zI1 st fun x q => K (pc + 1) (zst1 ls a (.inr (.inl x))) q (L, σ)) = some r) : zG p l e R s m args below meth c Q D as0 ea A nL L0 pc ls st (L, σ) := by
  obtain ⟨hx, hb, hml, hown, hts, hA, hE, hN⟩ := C0
  obtain ⟨x, q, e, hk⟩ := zI1_some h
  subst e
  intro as cas tys H locs lsA hw ha hl hst hle
  exact lv_istore_n hx hb hd hn hl.has hL rfl (fun ls' h' => (hK _ _ _ _ hk).2 as cas tys H locs ls' hw ha (zLc_st1 hl (zv_hd hst) h') (zv_tl hst) hle)
theorem zs_lstore (C0 : zCtx p s m args c cc nL own A ea X) (hK : zHyp p l e R s m args below meth c Q D as0 ea A nL L0 K r) {a : Nat} (hL : a + 1 < nL) (hd : decode cc pc = .ok (.lstore a, 2)) (h : (zJ1 st fun x q => K (pc + 2) (zst2 ls a (.inr (.inr x))) q (L, σ)) = some r) : zG p l e R s m args below meth c Q D as0 ea A nL L0 pc ls st (L, σ) := by
  obtain ⟨hx, hb, hml, hown, hts, hA, hE, hN⟩ := C0
  obtain ⟨x, q, e, hk⟩ := zJ1_some h
  subst e
  intro as cas tys H locs lsA hw ha hl hst hle
  exact lv_lstore hx hb hd hl.has hL rfl (fun ls' h' => (hK _ _ _ _ hk).2 as cas tys H locs ls' hw ha (zLc_st2 hl (zv_hd hst) h') (zv_tl hst) hle)
theorem zs_lstore_n (C0 : zCtx p s m args c cc nL own A ea X) (hK : zHyp p l e R s m args below meth c Q D as0 ea A nL L0 K r) {a : Nat} {n : Fin 4} (hn : (n : Nat) = a) (hL : a + 1 < nL) (hd : decode cc pc = .ok (.lstore_n n, 1)) (h : (zJ1 st fun x q => K (pc + 1) (zst2 ls a (.inr (.inr x))) q (L, σ)) = some r) : zG p l e R s m args below meth c Q D as0 ea A nL L0 pc ls st (L, σ) := by
  obtain ⟨hx, hb, hml, hown, hts, hA, hE, hN⟩ := C0
  obtain ⟨x, q, e, hk⟩ := zJ1_some h
  subst e
  intro as cas tys H locs lsA hw ha hl hst hle
  exact lv_lstore_n hx hb hd hn hl.has hL rfl (fun ls' h' => (hK _ _ _ _ hk).2 as cas tys H locs ls' hw ha (zLc_st2 hl (zv_hd hst) h') (zv_tl hst) hle)
theorem zs_astore (C0 : zCtx p s m args c cc nL own A ea X) (hK : zHyp p l e R s m args below meth c Q D as0 ea A nL L0 K r) {a : Nat} (hL : a < nL) (hd : decode cc pc = .ok (.astore a, 2)) (h : (zR1 st fun x q => K (pc + 2) (zst1 ls a (.inl (some x))) q (L, σ)) = some r) : zG p l e R s m args below meth c Q D as0 ea A nL L0 pc ls st (L, σ) := by
  obtain ⟨hx, hb, hml, hown, hts, hA, hE, hN⟩ := C0
  obtain ⟨x, q, e, hk⟩ := zR1_some h
  subst e
  intro as cas tys H locs lsA hw ha hl hst hle
  exact lv_astore hx hb hd hl.has hL rfl (fun ls' h' => (hK _ _ _ _ hk).2 as cas tys H locs ls' hw ha (zLc_st1 hl (zv_hd hst) h') (zv_tl hst) hle)
theorem zs_astore_n (C0 : zCtx p s m args c cc nL own A ea X) (hK : zHyp p l e R s m args below meth c Q D as0 ea A nL L0 K r) {a : Nat} {n : Fin 4} (hn : (n : Nat) = a) (hL : a < nL) (hd : decode cc pc = .ok (.astore_n n, 1)) (h : (zR1 st fun x q => K (pc + 1) (zst1 ls a (.inl (some x))) q (L, σ)) = some r) : zG p l e R s m args below meth c Q D as0 ea A nL L0 pc ls st (L, σ) := by
  obtain ⟨hx, hb, hml, hown, hts, hA, hE, hN⟩ := C0
  obtain ⟨x, q, e, hk⟩ := zR1_some h
  subst e
  intro as cas tys H locs lsA hw ha hl hst hle
  exact lv_astore_n hx hb hd hn hl.has hL rfl (fun ls' h' => (hK _ _ _ _ hk).2 as cas tys H locs ls' hw ha (zLc_st1 hl (zv_hd hst) h') (zv_tl hst) hle)
theorem zs_iinc (C0 : zCtx p s m args c cc nL own A ea X) (hK : zHyp p l e R s m args below meth c Q D as0 ea A nL L0 K r) {a : Nat} {tab : List (Int × Nat)} {n : Int} (hL : a < nL) (ht : zconOK (fun v => n = v) tab) (hd : decode cc pc = .ok (.iinc a n, 3)) (h : (zli ls a fun x => zcon tab fun v => K (pc + 3) (zst1 ls a (.inr (.inl (zw (x + v))))) st (L, σ)) = some r) : zG p l e R s m args below meth c Q D as0 ea A nL L0 pc ls st (L, σ) := by
  obtain ⟨hx, hb, hml, hown, hts, hA, hE, hN⟩ := C0
  obtain ⟨x, e, h⟩ := zli_some h
  obtain ⟨v, t, q, rfl, hk⟩ := zcon_some h
  have ht : n = v := ht
  subst ht
  intro as cas tys H locs lsA hw ha hl hst hle
  obtain ⟨k, hk2⟩ := List.getElem?_of_mem (zpairs_mem.mpr ⟨_, e, rfl⟩ : (a, zc (zad as ea) (.inr (.inl x))) ∈ zpairs (zad as ea) ls)
  refine lv_iinc (k := k) (x := Int32.ofInt x) (v := Int32.ofInt (zw (x + n))) hx hb hd hl.has hk2 (zi_add x n).symm hL rfl (fun ls' h' => ?_)
  exact (hK _ _ _ _ hk).2 as cas tys H locs ls' hw ha (zLc_st1 (v := .inr (.inl (zw (x + n)))) hl (zw_in _) h') hst hle
theorem zs_iconst (C0 : zCtx p s m args c cc nL own A ea X) (hK : zHyp p l e R s m args below meth c Q D as0 ea A nL L0 K r) {n : Int} {tab : List (Int × Nat)} (ht : zconOK (fun v => n = v ∧ zin v) tab) (hd : decode cc pc = .ok (.iconst n, 1)) (h : (zcon tab fun v => K (pc + 1) ls (.inr (.inl v) :: st) (L, σ)) = some r) : zG p l e R s m args below meth c Q D as0 ea A nL L0 pc ls st (L, σ) := by
  obtain ⟨hx, hb, hml, hown, hts, hA, hE, hN⟩ := C0
  obtain ⟨v, t, q, rfl, hk⟩ := zcon_some h
  have ht : n = v ∧ zin v := ht
  intro as cas tys H locs lsA hw ha hl hst hle
  exact lv_iconst hx hb hd (by rw [ht.1]) ((hK _ _ _ _ hk).2 as cas tys H locs lsA hw ha hl (zv_cons ht.2 hst) hle)
theorem zs_bipush (C0 : zCtx p s m args c cc nL own A ea X) (hK : zHyp p l e R s m args below meth c Q D as0 ea A nL L0 K r) {n : Int} {tab : List (Int × Nat)} (ht : zconOK (fun v => (Int8.ofInt n).toInt32 = Int32.ofInt v ∧ zin v) tab) (hd : decode cc pc = .ok (.bipush n, 2)) (h : (zcon tab fun v => K (pc + 2) ls (.inr (.inl v) :: st) (L, σ)) = some r) : zG p l e R s m args below meth c Q D as0 ea A nL L0 pc ls st (L, σ) := by
  obtain ⟨hx, hb, hml, hown, hts, hA, hE, hN⟩ := C0
  obtain ⟨v, t, q, rfl, hk⟩ := zcon_some h
  have ht : (Int8.ofInt n).toInt32 = Int32.ofInt v ∧ zin v := ht
  intro as cas tys H locs lsA hw ha hl hst hle
  exact lv_bipush hx hb hd ht.1 ((hK _ _ _ _ hk).2 as cas tys H locs lsA hw ha hl (zv_cons ht.2 hst) hle)
theorem zs_sipush (C0 : zCtx p s m args c cc nL own A ea X) (hK : zHyp p l e R s m args below meth c Q D as0 ea A nL L0 K r) {n : Int} {tab : List (Int × Nat)} (ht : zconOK (fun v => (Int16.ofInt n).toInt32 = Int32.ofInt v ∧ zin v) tab) (hd : decode cc pc = .ok (.sipush n, 3)) (h : (zcon tab fun v => K (pc + 3) ls (.inr (.inl v) :: st) (L, σ)) = some r) : zG p l e R s m args below meth c Q D as0 ea A nL L0 pc ls st (L, σ) := by
  obtain ⟨hx, hb, hml, hown, hts, hA, hE, hN⟩ := C0
  obtain ⟨v, t, q, rfl, hk⟩ := zcon_some h
  have ht : (Int16.ofInt n).toInt32 = Int32.ofInt v ∧ zin v := ht
  intro as cas tys H locs lsA hw ha hl hst hle
  exact lv_sipush hx hb hd ht.1 ((hK _ _ _ _ hk).2 as cas tys H locs lsA hw ha hl (zv_cons ht.2 hst) hle)
theorem zs_ldc (C0 : zCtx p s m args c cc nL own A ea X) (hK : zHyp p l e R s m args below meth c Q D as0 ea A nL L0 K r) {n : Nat} {tab : List (Int × Nat)} (ht : zconOK (fun v => Jvm.Cond.constant own n (Int32.ofInt v) ∈ lw_tbl ∧ zin v) tab) (hd : decode cc pc = .ok (.ldc n, 2)) (h : (zcon tab fun v => K (pc + 2) ls (.inr (.inl v) :: st) (L, σ)) = some r) : zG p l e R s m args below meth c Q D as0 ea A nL L0 pc ls st (L, σ) := by
  obtain ⟨hx, hb, hml, hown, hts, hA, hE, hN⟩ := C0
  obtain ⟨v, t, q, rfl, hk⟩ := zcon_some h
  have ht : Jvm.Cond.constant own n (Int32.ofInt v) ∈ lw_tbl ∧ zin v := ht
  intro as cas tys H locs lsA hw ha hl hst hle
  exact lv_ldc hx hb hown (hts _ (zTb_in ht.1 rfl)) hd ((hK _ _ _ _ hk).2 as cas tys H locs lsA hw ha hl (zv_cons ht.2 hst) hle)
theorem zs_ldc_w (C0 : zCtx p s m args c cc nL own A ea X) (hK : zHyp p l e R s m args below meth c Q D as0 ea A nL L0 K r) {n : Nat} {tab : List (Int × Nat)} (ht : zconOK (fun v => Jvm.Cond.constant own n (Int32.ofInt v) ∈ lw_tbl ∧ zin v) tab) (hd : decode cc pc = .ok (.ldc_w n, 3)) (h : (zcon tab fun v => K (pc + 3) ls (.inr (.inl v) :: st) (L, σ)) = some r) : zG p l e R s m args below meth c Q D as0 ea A nL L0 pc ls st (L, σ) := by
  obtain ⟨hx, hb, hml, hown, hts, hA, hE, hN⟩ := C0
  obtain ⟨v, t, q, rfl, hk⟩ := zcon_some h
  have ht : Jvm.Cond.constant own n (Int32.ofInt v) ∈ lw_tbl ∧ zin v := ht
  intro as cas tys H locs lsA hw ha hl hst hle
  exact lv_ldcw hx hb hown (hts _ (zTb_in ht.1 rfl)) hd ((hK _ _ _ _ hk).2 as cas tys H locs lsA hw ha hl (zv_cons ht.2 hst) hle)
theorem zs_ldc2_w (C0 : zCtx p s m args c cc nL own A ea X) (hK : zHyp p l e R s m args below meth c Q D as0 ea A nL L0 K r) {n : Nat} {tab : List (Int × Nat)} (ht : zconOK (fun v => Jvm.Cond.constantLong own n (Int64.ofInt v) ∈ lw_tbl ∧ zinl v) tab) (hd : decode cc pc = .ok (.ldc2_w n, 3)) (h : (zcon tab fun v => K (pc + 3) ls (.inr (.inr v) :: st) (L, σ)) = some r) : zG p l e R s m args below meth c Q D as0 ea A nL L0 pc ls st (L, σ) := by
  obtain ⟨hx, hb, hml, hown, hts, hA, hE, hN⟩ := C0
  obtain ⟨v, t, q, rfl, hk⟩ := zcon_some h
  have ht : Jvm.Cond.constantLong own n (Int64.ofInt v) ∈ lw_tbl ∧ zinl v := ht
  intro as cas tys H locs lsA hw ha hl hst hle
  exact lv_ldc2 hx hb hown (hts _ (zTb_in ht.1 rfl)) hd ((hK _ _ _ _ hk).2 as cas tys H locs lsA hw ha hl (zv_cons ht.2 hst) hle)
theorem zs_lconst (C0 : zCtx p s m args c cc nL own A ea X) (hK : zHyp p l e R s m args below meth c Q D as0 ea A nL L0 K r) {n : Fin 2} {tab : List (Int × Nat)} (ht : zconOK (fun v => Int64.ofNat (n : Nat) = Int64.ofInt v ∧ zinl v) tab) (hd : decode cc pc = .ok (.lconst n, 1)) (h : (zcon tab fun v => K (pc + 1) ls (.inr (.inr v) :: st) (L, σ)) = some r) : zG p l e R s m args below meth c Q D as0 ea A nL L0 pc ls st (L, σ) := by
  obtain ⟨hx, hb, hml, hown, hts, hA, hE, hN⟩ := C0
  obtain ⟨v, t, q, rfl, hk⟩ := zcon_some h
  have ht : Int64.ofNat (n : Nat) = Int64.ofInt v ∧ zinl v := ht
  intro as cas tys H locs lsA hw ha hl hst hle
  exact lv_lconst hx hb hd ht.1 ((hK _ _ _ _ hk).2 as cas tys H locs lsA hw ha hl (zv_cons ht.2 hst) hle)
theorem zs_iadd (C0 : zCtx p s m args c cc nL own A ea X) (hK : zHyp p l e R s m args below meth c Q D as0 ea A nL L0 K r) (hd : decode cc pc = .ok (.iadd, 1)) (h : (zI2 st fun x y q => K (pc + 1) ls (.inr (.inl (zw (x + y))) :: q) (L, σ)) = some r) : zG p l e R s m args below meth c Q D as0 ea A nL L0 pc ls st (L, σ) := by
  obtain ⟨hx, hb, hml, hown, hts, hA, hE, hN⟩ := C0
  obtain ⟨x, y, q, rfl, hk⟩ := zI2_some h
  intro as cas tys H locs lsA hw ha hl hst hle
  refine lv_iadd hx hb hd ?_
  rw [← zi_add]
  exact (hK _ _ _ _ hk).2 as cas tys H locs lsA hw ha hl (zv_cons (zw_in _) (zv_tl (zv_tl hst))) hle
theorem zs_isub (C0 : zCtx p s m args c cc nL own A ea X) (hK : zHyp p l e R s m args below meth c Q D as0 ea A nL L0 K r) (hd : decode cc pc = .ok (.isub, 1)) (h : (zI2 st fun x y q => K (pc + 1) ls (.inr (.inl (zw (x - y))) :: q) (L, σ)) = some r) : zG p l e R s m args below meth c Q D as0 ea A nL L0 pc ls st (L, σ) := by
  obtain ⟨hx, hb, hml, hown, hts, hA, hE, hN⟩ := C0
  obtain ⟨x, y, q, rfl, hk⟩ := zI2_some h
  intro as cas tys H locs lsA hw ha hl hst hle
  refine lv_isub hx hb hd ?_
  rw [← zi_sub]
  exact (hK _ _ _ _ hk).2 as cas tys H locs lsA hw ha hl (zv_cons (zw_in _) (zv_tl (zv_tl hst))) hle
theorem zs_imul (C0 : zCtx p s m args c cc nL own A ea X) (hK : zHyp p l e R s m args below meth c Q D as0 ea A nL L0 K r) (hd : decode cc pc = .ok (.imul, 1)) (h : (zI2 st fun x y q => K (pc + 1) ls (.inr (.inl (zw (x * y))) :: q) (L, σ)) = some r) : zG p l e R s m args below meth c Q D as0 ea A nL L0 pc ls st (L, σ) := by
  obtain ⟨hx, hb, hml, hown, hts, hA, hE, hN⟩ := C0
  obtain ⟨x, y, q, rfl, hk⟩ := zI2_some h
  intro as cas tys H locs lsA hw ha hl hst hle
  refine lv_imul hx hb hd ?_
  rw [← zi_mul]
  exact (hK _ _ _ _ hk).2 as cas tys H locs lsA hw ha hl (zv_cons (zw_in _) (zv_tl (zv_tl hst))) hle
theorem zs_iand (C0 : zCtx p s m args c cc nL own A ea X) (hK : zHyp p l e R s m args below meth c Q D as0 ea A nL L0 K r) (hd : decode cc pc = .ok (.iand, 1)) (h : (zI2 st fun x y q => K (pc + 1) ls (.inr (.inl (zand x y)) :: q) (L, σ)) = some r) : zG p l e R s m args below meth c Q D as0 ea A nL L0 pc ls st (L, σ) := by
  obtain ⟨hx, hb, hml, hown, hts, hA, hE, hN⟩ := C0
  obtain ⟨x, y, q, rfl, hk⟩ := zI2_some h
  intro as cas tys H locs lsA hw ha hl hst hle
  refine lv_iand hx hb hd ?_
  rw [← zi_and]
  exact (hK _ _ _ _ hk).2 as cas tys H locs lsA hw ha hl (zv_cons (zi_in _) (zv_tl (zv_tl hst))) hle
theorem zs_ior (C0 : zCtx p s m args c cc nL own A ea X) (hK : zHyp p l e R s m args below meth c Q D as0 ea A nL L0 K r) (hd : decode cc pc = .ok (.ior, 1)) (h : (zI2 st fun x y q => K (pc + 1) ls (.inr (.inl (zor x y)) :: q) (L, σ)) = some r) : zG p l e R s m args below meth c Q D as0 ea A nL L0 pc ls st (L, σ) := by
  obtain ⟨hx, hb, hml, hown, hts, hA, hE, hN⟩ := C0
  obtain ⟨x, y, q, rfl, hk⟩ := zI2_some h
  intro as cas tys H locs lsA hw ha hl hst hle
  refine lv_ior hx hb hd ?_
  rw [← zi_or]
  exact (hK _ _ _ _ hk).2 as cas tys H locs lsA hw ha hl (zv_cons (zi_in _) (zv_tl (zv_tl hst))) hle
theorem zs_ixor (C0 : zCtx p s m args c cc nL own A ea X) (hK : zHyp p l e R s m args below meth c Q D as0 ea A nL L0 K r) (hd : decode cc pc = .ok (.ixor, 1)) (h : (zI2 st fun x y q => K (pc + 1) ls (.inr (.inl (zxor x y)) :: q) (L, σ)) = some r) : zG p l e R s m args below meth c Q D as0 ea A nL L0 pc ls st (L, σ) := by
  obtain ⟨hx, hb, hml, hown, hts, hA, hE, hN⟩ := C0
  obtain ⟨x, y, q, rfl, hk⟩ := zI2_some h
  intro as cas tys H locs lsA hw ha hl hst hle
  refine lv_ixor hx hb hd ?_
  rw [← zi_xor]
  exact (hK _ _ _ _ hk).2 as cas tys H locs lsA hw ha hl (zv_cons (zi_in _) (zv_tl (zv_tl hst))) hle
theorem zs_ishl (C0 : zCtx p s m args c cc nL own A ea X) (hK : zHyp p l e R s m args below meth c Q D as0 ea A nL L0 K r) (hd : decode cc pc = .ok (.ishl, 1)) (h : (zI2 st fun x y q => K (pc + 1) ls (.inr (.inl (zshl x y)) :: q) (L, σ)) = some r) : zG p l e R s m args below meth c Q D as0 ea A nL L0 pc ls st (L, σ) := by
  obtain ⟨hx, hb, hml, hown, hts, hA, hE, hN⟩ := C0
  obtain ⟨x, y, q, rfl, hk⟩ := zI2_some h
  intro as cas tys H locs lsA hw ha hl hst hle
  refine lv_ishl hx hb hd ?_
  rw [← zi_shl]
  exact (hK _ _ _ _ hk).2 as cas tys H locs lsA hw ha hl (zv_cons (zi_in _) (zv_tl (zv_tl hst))) hle
theorem zs_ishr (C0 : zCtx p s m args c cc nL own A ea X) (hK : zHyp p l e R s m args below meth c Q D as0 ea A nL L0 K r) (hd : decode cc pc = .ok (.ishr, 1)) (h : (zI2 st fun x y q => K (pc + 1) ls (.inr (.inl (zshr x y)) :: q) (L, σ)) = some r) : zG p l e R s m args below meth c Q D as0 ea A nL L0 pc ls st (L, σ) := by
  obtain ⟨hx, hb, hml, hown, hts, hA, hE, hN⟩ := C0
  obtain ⟨x, y, q, rfl, hk⟩ := zI2_some h
  intro as cas tys H locs lsA hw ha hl hst hle
  refine lv_ishr hx hb hd ?_
  rw [← zi_shr]
  exact (hK _ _ _ _ hk).2 as cas tys H locs lsA hw ha hl (zv_cons (zi_in _) (zv_tl (zv_tl hst))) hle
theorem zs_iushr (C0 : zCtx p s m args c cc nL own A ea X) (hK : zHyp p l e R s m args below meth c Q D as0 ea A nL L0 K r) (hd : decode cc pc = .ok (.iushr, 1)) (h : (zI2 st fun x y q => K (pc + 1) ls (.inr (.inl (zushr x y)) :: q) (L, σ)) = some r) : zG p l e R s m args below meth c Q D as0 ea A nL L0 pc ls st (L, σ) := by
  obtain ⟨hx, hb, hml, hown, hts, hA, hE, hN⟩ := C0
  obtain ⟨x, y, q, rfl, hk⟩ := zI2_some h
  intro as cas tys H locs lsA hw ha hl hst hle
  exact lv_iushr hx hb hd (zi_ushr x y) ((hK _ _ _ _ hk).2 as cas tys H locs lsA hw ha hl (zv_cons (zi_in _) (zv_tl (zv_tl hst))) hle)
theorem zs_idiv (C0 : zCtx p s m args c cc nL own A ea X) (hK : zHyp p l e R s m args below meth c Q D as0 ea A nL L0 K r) (hd : decode cc pc = .ok (.idiv, 1)) (h : (zI2 st fun x y q => if y = 0 then none else K (pc + 1) ls (.inr (.inl (zdiv x y)) :: q) (L, σ)) = some r) : zG p l e R s m args below meth c Q D as0 ea A nL L0 pc ls st (L, σ) := by
  obtain ⟨hx, hb, hml, hown, hts, hA, hE, hN⟩ := C0
  obtain ⟨x, y, q, rfl, hk⟩ := zI2_some h
  intro as cas tys H locs lsA hw ha hl hst hle
  split at hk
  · cases hk
  next h0 =>
  have hxi : zin x := zv_hd (zv_tl hst)
  have hyi : zin y := zv_hd hst
  refine lv_idiv hx hb hd (fun q0 => h0 ((zi_eq hyi (by unfold zin; omega)).mp q0)) ?_
  rw [← zi_div hxi hyi]
  exact (hK _ _ _ _ hk).2 as cas tys H locs lsA hw ha hl (zv_cons (zw_in _) (zv_tl (zv_tl hst))) hle
theorem zs_irem (C0 : zCtx p s m args c cc nL own A ea X) (hK : zHyp p l e R s m args below meth c Q D as0 ea A nL L0 K r) (hd : decode cc pc = .ok (.irem, 1)) (h : (zI2 st fun x y q => if y = 0 then none else K (pc + 1) ls (.inr (.inl (zrem x y)) :: q) (L, σ)) = some r) : zG p l e R s m args below meth c Q D as0 ea A nL L0 pc ls st (L, σ) := by
  obtain ⟨hx, hb, hml, hown, hts, hA, hE, hN⟩ := C0
  obtain ⟨x, y, q, rfl, hk⟩ := zI2_some h
  intro as cas tys H locs lsA hw ha hl hst hle
  split at hk
  · cases hk
  next h0 =>
  have hxi : zin x := zv_hd (zv_tl hst)
  have hyi : zin y := zv_hd hst
  refine lv_irem hx hb hd (fun q0 => h0 ((zi_eq hyi (by unfold zin; omega)).mp q0)) ?_
  rw [← zi_rem hxi hyi h0]
  exact (hK _ _ _ _ hk).2 as cas tys H locs lsA hw ha hl (zv_cons (zrem_in (zv_hd (zv_tl hst)) h0) (zv_tl (zv_tl hst))) hle
theorem zs_ineg (C0 : zCtx p s m args c cc nL own A ea X) (hK : zHyp p l e R s m args below meth c Q D as0 ea A nL L0 K r) (hd : decode cc pc = .ok (.ineg, 1)) (h : (zI1 st fun x q => K (pc + 1) ls (.inr (.inl (zw (-x))) :: q) (L, σ)) = some r) : zG p l e R s m args below meth c Q D as0 ea A nL L0 pc ls st (L, σ) := by
  obtain ⟨hx, hb, hml, hown, hts, hA, hE, hN⟩ := C0
  obtain ⟨x, q, rfl, hk⟩ := zI1_some h
  intro as cas tys H locs lsA hw ha hl hst hle
  refine lv_ineg hx hb hd ?_
  rw [← zi_neg]
  exact (hK _ _ _ _ hk).2 as cas tys H locs lsA hw ha hl (zv_cons (zw_in _) (zv_tl hst)) hle
theorem zs_ladd (C0 : zCtx p s m args c cc nL own A ea X) (hK : zHyp p l e R s m args below meth c Q D as0 ea A nL L0 K r) (hd : decode cc pc = .ok (.ladd, 1)) (h : (zJ2 st fun x y q => K (pc + 1) ls (.inr (.inr (zwl (x + y))) :: q) (L, σ)) = some r) : zG p l e R s m args below meth c Q D as0 ea A nL L0 pc ls st (L, σ) := by
  obtain ⟨hx, hb, hml, hown, hts, hA, hE, hN⟩ := C0
  obtain ⟨x, y, q, rfl, hk⟩ := zJ2_some h
  intro as cas tys H locs lsA hw ha hl hst hle
  refine lv_ladd hx hb hd ?_
  rw [← zj_add]
  exact (hK _ _ _ _ hk).2 as cas tys H locs lsA hw ha hl (zv_cons (zwl_in _) (zv_tl (zv_tl hst))) hle
theorem zs_lmul (C0 : zCtx p s m args c cc nL own A ea X) (hK : zHyp p l e R s m args below meth c Q D as0 ea A nL L0 K r) (hd : decode cc pc = .ok (.lmul, 1)) (h : (zJ2 st fun x y q => K (pc + 1) ls (.inr (.inr (zwl (x * y))) :: q) (L, σ)) = some r) : zG p l e R s m args below meth c Q D as0 ea A nL L0 pc ls st (L, σ) := by
  obtain ⟨hx, hb, hml, hown, hts, hA, hE, hN⟩ := C0
  obtain ⟨x, y, q, rfl, hk⟩ := zJ2_some h
  intro as cas tys H locs lsA hw ha hl hst hle
  refine lv_lmul hx hb hd ?_
  rw [← zj_mul]
  exact (hK _ _ _ _ hk).2 as cas tys H locs lsA hw ha hl (zv_cons (zwl_in _) (zv_tl (zv_tl hst))) hle
theorem zs_land (C0 : zCtx p s m args c cc nL own A ea X) (hK : zHyp p l e R s m args below meth c Q D as0 ea A nL L0 K r) (hd : decode cc pc = .ok (.land, 1)) (h : (zJ2 st fun x y q => K (pc + 1) ls (.inr (.inr (zandl x y)) :: q) (L, σ)) = some r) : zG p l e R s m args below meth c Q D as0 ea A nL L0 pc ls st (L, σ) := by
  obtain ⟨hx, hb, hml, hown, hts, hA, hE, hN⟩ := C0
  obtain ⟨x, y, q, rfl, hk⟩ := zJ2_some h
  intro as cas tys H locs lsA hw ha hl hst hle
  refine lv_land hx hb hd ?_
  rw [← zj_and]
  exact (hK _ _ _ _ hk).2 as cas tys H locs lsA hw ha hl (zv_cons (zj_in _) (zv_tl (zv_tl hst))) hle
theorem zs_lor (C0 : zCtx p s m args c cc nL own A ea X) (hK : zHyp p l e R s m args below meth c Q D as0 ea A nL L0 K r) (hd : decode cc pc = .ok (.lor, 1)) (h : (zJ2 st fun x y q => K (pc + 1) ls (.inr (.inr (zorl x y)) :: q) (L, σ)) = some r) : zG p l e R s m args below meth c Q D as0 ea A nL L0 pc ls st (L, σ) := by
  obtain ⟨hx, hb, hml, hown, hts, hA, hE, hN⟩ := C0
  obtain ⟨x, y, q, rfl, hk⟩ := zJ2_some h
  intro as cas tys H locs lsA hw ha hl hst hle
  refine lv_lor hx hb hd ?_
  rw [← zj_or]
  exact (hK _ _ _ _ hk).2 as cas tys H locs lsA hw ha hl (zv_cons (zj_in _) (zv_tl (zv_tl hst))) hle
theorem zs_lshl (C0 : zCtx p s m args c cc nL own A ea X) (hK : zHyp p l e R s m args below meth c Q D as0 ea A nL L0 K r) (hd : decode cc pc = .ok (.lshl, 1)) (h : (zJI st fun x y q => K (pc + 1) ls (.inr (.inr (zshll x y)) :: q) (L, σ)) = some r) : zG p l e R s m args below meth c Q D as0 ea A nL L0 pc ls st (L, σ) := by
  obtain ⟨hx, hb, hml, hown, hts, hA, hE, hN⟩ := C0
  obtain ⟨x, y, q, rfl, hk⟩ := zJI_some h
  intro as cas tys H locs lsA hw ha hl hst hle
  exact lv_lshl hx hb hd (zj_shl x y) ((hK _ _ _ _ hk).2 as cas tys H locs lsA hw ha hl (zv_cons (zj_in _) (zv_tl (zv_tl hst))) hle)
theorem zs_lcmp (C0 : zCtx p s m args c cc nL own A ea X) (hK : zHyp p l e R s m args below meth c Q D as0 ea A nL L0 K r) (hd : decode cc pc = .ok (.lcmp, 1)) (h : (zJ2 st fun x y q => K (pc + 1) ls (.inr (.inl (zcmpl x y)) :: q) (L, σ)) = some r) : zG p l e R s m args below meth c Q D as0 ea A nL L0 pc ls st (L, σ) := by
  obtain ⟨hx, hb, hml, hown, hts, hA, hE, hN⟩ := C0
  obtain ⟨x, y, q, rfl, hk⟩ := zJ2_some h
  intro as cas tys H locs lsA hw ha hl hst hle
  refine W.lcmp hx hb hd ?_
  rw [zj_cmp (zv_hd (zv_tl hst)) (zv_hd hst)]
  exact (hK _ _ _ _ hk).2 as cas tys H locs lsA hw ha hl (zv_cons (zcmpl_in x y) (zv_tl (zv_tl hst))) hle
theorem zs_i2l (C0 : zCtx p s m args c cc nL own A ea X) (hK : zHyp p l e R s m args below meth c Q D as0 ea A nL L0 K r) (hd : decode cc pc = .ok (.i2l, 1)) (h : (zI1 st fun x q => K (pc + 1) ls (.inr (.inr x) :: q) (L, σ)) = some r) : zG p l e R s m args below meth c Q D as0 ea A nL L0 pc ls st (L, σ) := by
  obtain ⟨hx, hb, hml, hown, hts, hA, hE, hN⟩ := C0
  obtain ⟨x, q, rfl, hk⟩ := zI1_some h
  intro as cas tys H locs lsA hw ha hl hst hle
  have hxi : zin x := zv_hd hst
  exact lv_i2l hx hb hd (zi_2l hxi) ((hK _ _ _ _ hk).2 as cas tys H locs lsA hw ha hl (zv_cons (show zinl x by unfold zin at hxi; unfold zinl; omega) (zv_tl hst)) hle)
theorem zs_l2i (C0 : zCtx p s m args c cc nL own A ea X) (hK : zHyp p l e R s m args below meth c Q D as0 ea A nL L0 K r) (hd : decode cc pc = .ok (.l2i, 1)) (h : (zJ1 st fun x q => K (pc + 1) ls (.inr (.inl (zw x)) :: q) (L, σ)) = some r) : zG p l e R s m args below meth c Q D as0 ea A nL L0 pc ls st (L, σ) := by
  obtain ⟨hx, hb, hml, hown, hts, hA, hE, hN⟩ := C0
  obtain ⟨x, q, rfl, hk⟩ := zJ1_some h
  intro as cas tys H locs lsA hw ha hl hst hle
  exact lv_l2i hx hb hd (zj_2i (zv_hd hst)) ((hK _ _ _ _ hk).2 as cas tys H locs lsA hw ha hl (zv_cons (zw_in _) (zv_tl hst)) hle)
theorem zs_i2b (C0 : zCtx p s m args c cc nL own A ea X) (hK : zHyp p l e R s m args below meth c Q D as0 ea A nL L0 K r) (hd : decode cc pc = .ok (.i2b, 1)) (h : (zI1 st fun x q => K (pc + 1) ls (.inr (.inl (zi2b x)) :: q) (L, σ)) = some r) : zG p l e R s m args below meth c Q D as0 ea A nL L0 pc ls st (L, σ) := by
  obtain ⟨hx, hb, hml, hown, hts, hA, hE, hN⟩ := C0
  obtain ⟨x, q, rfl, hk⟩ := zI1_some h
  intro as cas tys H locs lsA hw ha hl hst hle
  exact lv_i2b hx hb hd (zi_2b x) ((hK _ _ _ _ hk).2 as cas tys H locs lsA hw ha hl (zv_cons (zi_in _) (zv_tl hst)) hle)
theorem zs_i2s (C0 : zCtx p s m args c cc nL own A ea X) (hK : zHyp p l e R s m args below meth c Q D as0 ea A nL L0 K r) (hd : decode cc pc = .ok (.i2s, 1)) (h : (zI1 st fun x q => K (pc + 1) ls (.inr (.inl (zi2s x)) :: q) (L, σ)) = some r) : zG p l e R s m args below meth c Q D as0 ea A nL L0 pc ls st (L, σ) := by
  obtain ⟨hx, hb, hml, hown, hts, hA, hE, hN⟩ := C0
  obtain ⟨x, q, rfl, hk⟩ := zI1_some h
  intro as cas tys H locs lsA hw ha hl hst hle
  exact lv_i2s hx hb hd (zi_2s x) ((hK _ _ _ _ hk).2 as cas tys H locs lsA hw ha hl (zv_cons (zi_in _) (zv_tl hst)) hle)
theorem zs_dup (C0 : zCtx p s m args c cc nL own A ea X) (hK : zHyp p l e R s m args below meth c Q D as0 ea A nL L0 K r) (hd : decode cc pc = .ok (.dup, 1)) (h : (zV1 st fun v q => K (pc + 1) ls (v :: v :: q) (L, σ)) = some r) : zG p l e R s m args below meth c Q D as0 ea A nL L0 pc ls st (L, σ) := by
  obtain ⟨hx, hb, hml, hown, hts, hA, hE, hN⟩ := C0
  obtain ⟨v, q, rfl, hc, hk⟩ := zV1_some h
  intro as cas tys H locs lsA hw ha hl hst hle
  exact lv_dup hx hb hd ((zc_cat _ v).trans hc) ((hK _ _ _ _ hk).2 as cas tys H locs lsA hw ha hl (zv_cons (zv_hd hst) hst) hle)
theorem zs_pop (C0 : zCtx p s m args c cc nL own A ea X) (hK : zHyp p l e R s m args below meth c Q D as0 ea A nL L0 K r) (hd : decode cc pc = .ok (.pop, 1)) (h : (zV1 st fun v q => K (pc + 1) ls q (L, σ)) = some r) : zG p l e R s m args below meth c Q D as0 ea A nL L0 pc ls st (L, σ) := by
  obtain ⟨hx, hb, hml, hown, hts, hA, hE, hN⟩ := C0
  obtain ⟨v, q, rfl, hc, hk⟩ := zV1_some h
  intro as cas tys H locs lsA hw ha hl hst hle
  exact lv_pop hx hb hd ((zc_cat _ v).trans hc) ((hK _ _ _ _ hk).2 as cas tys H locs lsA hw ha hl (zv_tl hst) hle)
theorem zs_dup_x1 (C0 : zCtx p s m args c cc nL own A ea X) (hK : zHyp p l e R s m args below meth c Q D as0 ea A nL L0 K r) (hd : decode cc pc = .ok (.dup_x1, 1)) (h : (zV2 st fun v w q => K (pc + 1) ls (v :: w :: v :: q) (L, σ)) = some r) : zG p l e R s m args below meth c Q D as0 ea A nL L0 pc ls st (L, σ) := by
  obtain ⟨hx, hb, hml, hown, hts, hA, hE, hN⟩ := C0
  obtain ⟨v, w, q, rfl, hc, hc2, hk⟩ := zV2_some h
  intro as cas tys H locs lsA hw ha hl hst hle
  exact lv_dup_x1 hx hb hd ((zc_cat _ v).trans hc) ((zc_cat _ w).trans hc2) ((hK _ _ _ _ hk).2 as cas tys H locs lsA hw ha hl (zv_cons (zv_hd hst) (zv_cons (zv_hd (zv_tl hst)) (zv_cons (zv_hd hst) (zv_tl (zv_tl hst))))) hle)
theorem zs_dup2 (C0 : zCtx p s m args c cc nL own A ea X) (hK : zHyp p l e R s m args below meth c Q D as0 ea A nL L0 K r) (hd : decode cc pc = .ok (.dup2, 1)) (h : (zV2 st fun v w q => K (pc + 1) ls (v :: w :: v :: w :: q) (L, σ)) = some r) : zG p l e R s m args below meth c Q D as0 ea A nL L0 pc ls st (L, σ) := by
  obtain ⟨hx, hb, hml, hown, hts, hA, hE, hN⟩ := C0
  obtain ⟨v, w, q, rfl, hc, hc2, hk⟩ := zV2_some h
  intro as cas tys H locs lsA hw ha hl hst hle
  exact lv_dup2_11 hx hb hd ((zc_cat _ v).trans hc) ((zc_cat _ w).trans hc2) ((hK _ _ _ _ hk).2 as cas tys H locs lsA hw ha hl (zv_cons (zv_hd hst) (zv_cons (zv_hd (zv_tl hst)) hst)) hle)
theorem zs_goto (C0 : zCtx p s m args c cc nL own A ea X) (hK : zHyp p l e R s m args below meth c Q D as0 ea A nL L0 K r) {a : Nat} {o : Int} (ht : (pc : Int) + o = a) (hd : decode cc pc = .ok (.goto o, 3)) (h : K a ls st (L, σ) = some r) : zG p l e R s m args below meth c Q D as0 ea A nL L0 pc ls st (L, σ) := by
  obtain ⟨hx, hb, hml, hown, hts, hA, hE, hN⟩ := C0
  intro as cas tys H locs lsA hw ha hl hst hle
  exact lv_goto hx hb hd ht ((hK _ _ _ _ h).2 as cas tys H locs lsA hw ha hl hst hle)
theorem zs_icmp (C0 : zCtx p s m args c cc nL own A ea X) (hK : zHyp p l e R s m args below meth c Q D as0 ea A nL L0 K r) {a : Nat} {q : ClassFile.Cond} {o : Int} (ht : (pc : Int) + o = a) (hd : decode cc pc = .ok (.if_icmp q o, 3)) (h : (zI2 st fun x y k => zbr q x y (K a ls k (L, σ)) (K (pc + 3) ls k (L, σ))) = some r) : zG p l e R s m args below meth c Q D as0 ea A nL L0 pc ls st (L, σ) := by
  obtain ⟨hx, hb, hml, hown, hts, hA, hE, hN⟩ := C0
  obtain ⟨x, y, k, rfl, h9⟩ := zI2_some h
  intro as cas tys H locs lsA hw ha hl hst hle
  have hxi : zin x := zv_hd (zv_tl hst)
  have hyi : zin y := zv_hd hst
  have kT : ∀ hk : K a ls k (L, σ) = some r, _ := fun hk => (hK _ _ _ _ hk).2 as cas tys H locs lsA hw ha hl (zv_tl (zv_tl hst)) hle
  have kF : ∀ hk : K (pc + 3) ls k (L, σ) = some r, _ := fun hk => (hK _ _ _ _ hk).2 as cas tys H locs lsA hw ha hl (zv_tl (zv_tl hst)) hle
  cases q
  · refine lv_icmp_eq hx hb hd ht (fun g => kT ?_) (fun g => kF ?_)
    · rw [zi_eq hxi hyi] at g; simp only [zbr, if_pos g] at h9; exact h9
    · rw [zi_eq hxi hyi] at g; simp only [zbr, if_neg g] at h9; exact h9
  · refine lv_icmp_ne hx hb hd ht (fun g => kT ?_) (fun g => kF ?_)
    · have g : ¬ Int32.ofInt x = Int32.ofInt y := g
      rw [zi_eq hxi hyi] at g; simp only [zbr, if_neg g] at h9; exact h9
    · have g : Int32.ofInt x = Int32.ofInt y := g
      rw [zi_eq hxi hyi] at g; simp only [zbr, if_pos g] at h9; exact h9
  · refine lv_icmp_lt hx hb hd ht (fun g => kT ?_) (fun g => kF ?_)
    · rw [zi_lt hxi hyi] at g; simp only [zbr, if_pos g] at h9; exact h9
    · rw [zi_lt hxi hyi] at g; simp only [zbr, if_neg g] at h9; exact h9
  · refine lv_icmp_ge hx hb hd ht (fun g => kT ?_) (fun g => kF ?_)
    · rw [zi_le hyi hxi] at g; simp only [zbr, if_neg (show ¬ x < y by omega)] at h9; exact h9
    · rw [zi_le hyi hxi] at g; simp only [zbr, if_pos (show x < y by omega)] at h9; exact h9
  · refine lv_icmp_gt hx hb hd ht (fun g => kT ?_) (fun g => kF ?_)
    · have g : Int32.ofInt y < Int32.ofInt x := g
      rw [zi_lt hyi hxi] at g; simp only [zbr, if_pos g] at h9; exact h9
    · have g : ¬ Int32.ofInt y < Int32.ofInt x := g
      rw [zi_lt hyi hxi] at g; simp only [zbr, if_neg g] at h9; exact h9
  · refine lv_icmp_le hx hb hd ht (fun g => kT ?_) (fun g => kF ?_)
    · rw [zi_le hxi hyi] at g; simp only [zbr, if_neg (show ¬ y < x by omega)] at h9; exact h9
    · rw [zi_le hxi hyi] at g; simp only [zbr, if_pos (show y < x by omega)] at h9; exact h9
theorem zs_ifc (C0 : zCtx p s m args c cc nL own A ea X) (hK : zHyp p l e R s m args below meth c Q D as0 ea A nL L0 K r) {a : Nat} {q : ClassFile.Cond} {o : Int} (ht : (pc : Int) + o = a) (hd : decode cc pc = .ok (.ifCond q o, 3)) (h : (zI1 st fun x k => zbr q x 0 (K a ls k (L, σ)) (K (pc + 3) ls k (L, σ))) = some r) : zG p l e R s m args below meth c Q D as0 ea A nL L0 pc ls st (L, σ) := by
  obtain ⟨hx, hb, hml, hown, hts, hA, hE, hN⟩ := C0
  obtain ⟨x, k, rfl, h9⟩ := zI1_some h
  intro as cas tys H locs lsA hw ha hl hst hle
  have hxi : zin x := zv_hd hst
  have hyi : zin 0 := by unfold zin; omega
  have e0 : (0 : Int32) = Int32.ofInt 0 := rfl
  have kT : ∀ hk : K a ls k (L, σ) = some r, _ := fun hk => (hK _ _ _ _ hk).2 as cas tys H locs lsA hw ha hl (zv_tl hst) hle
  have kF : ∀ hk : K (pc + 3) ls k (L, σ) = some r, _ := fun hk => (hK _ _ _ _ hk).2 as cas tys H locs lsA hw ha hl (zv_tl hst) hle
  cases q
  · refine lv_if_eq hx hb hd ht (fun g => kT ?_) (fun g => kF ?_)
    · rw [e0, zi_eq hxi hyi] at g; simp only [zbr, if_pos g] at h9; exact h9
    · rw [e0, zi_eq hxi hyi] at g; simp only [zbr, if_neg g] at h9; exact h9
  · refine lv_if_ne hx hb hd ht (fun g => kT ?_) (fun g => kF ?_)
    · have g : ¬ Int32.ofInt x = Int32.ofInt 0 := g
      rw [zi_eq hxi hyi] at g; simp only [zbr, if_neg g] at h9; exact h9
    · have g : Int32.ofInt x = Int32.ofInt 0 := g
      rw [zi_eq hxi hyi] at g; simp only [zbr, if_pos g] at h9; exact h9
  · refine lv_if_lt hx hb hd ht (fun g => kT ?_) (fun g => kF ?_)
    · rw [e0, zi_lt hxi hyi] at g; simp only [zbr, if_pos g] at h9; exact h9
    · rw [e0, zi_lt hxi hyi] at g; simp only [zbr, if_neg g] at h9; exact h9
  · refine lv_if_ge hx hb hd ht (fun g => kT ?_) (fun g => kF ?_)
    · rw [e0, zi_le hyi hxi] at g; simp only [zbr, if_neg (show ¬ x < 0 by omega)] at h9; exact h9
    · rw [e0, zi_le hyi hxi] at g; simp only [zbr, if_pos (show x < 0 by omega)] at h9; exact h9
  · refine lv_if_gt hx hb hd ht (fun g => kT ?_) (fun g => kF ?_)
    · have g : Int32.ofInt 0 < Int32.ofInt x := g
      rw [zi_lt hyi hxi] at g; simp only [zbr, if_pos g] at h9; exact h9
    · have g : ¬ Int32.ofInt 0 < Int32.ofInt x := g
      rw [zi_lt hyi hxi] at g; simp only [zbr, if_neg g] at h9; exact h9
  · refine lv_if_le hx hb hd ht (fun g => kT ?_) (fun g => kF ?_)
    · rw [e0, zi_le hxi hyi] at g; simp only [zbr, if_neg (show ¬ 0 < x by omega)] at h9; exact h9
    · rw [e0, zi_le hxi hyi] at g; simp only [zbr, if_pos (show 0 < x by omega)] at h9; exact h9
theorem ztab_in {pc d : Nat} {x : Int} {k : Nat → Option zR} : ∀ {lo : Int} {os : List Int} {tab : List (Int × Nat)}, ztabOK pc lo os tab → zsw k d tab x = some r → (x < lo ∨ lo + os.length ≤ x) ∧ k d = some r ∨ (lo ≤ x ∧ x < lo + os.length ∧ ∃ (o : Int) (t : Nat), os[(x - lo).toNat]? = some o ∧ (pc : Int) + o = t ∧ k t = some r)
  | lo, [], [], _, h => Or.inl ⟨by simp; omega, h⟩
  | lo, o :: os, (v, t) :: tab, ⟨h1, h2, h3⟩, h => by
    subst h1
    unfold zsw at h
    split at h
    · next e =>
      subst e
      refine Or.inr ⟨by omega, by simp; omega, o, t, by simp, h2, h⟩
    · next e =>
      rcases ztab_in h3 h with ⟨q1, q2⟩ | ⟨q1, q2, o', t', q3, q4, q5⟩
      · exact Or.inl ⟨by simp at *; omega, q2⟩
      · refine Or.inr ⟨by omega, by simp at *; omega, o', t', ?_, q4, q5⟩
        have : (x - v).toNat = (x - (v + 1)).toNat + 1 := by omega
        rw [this]
        simpa using q3
  | _, [], _ :: _, hh, _ => hh.elim
  | _, _ :: _, [], hh, _ => hh.elim
theorem zlkp_in {pc d : Nat} {x dflt : Int} {k : Nat → Option zR} (hd : (pc : Int) + dflt = d) : ∀ {ps : List (Int × Int)} {tab : List (Int × Nat)}, zlkpOK pc ps tab → zsw k d tab x = some r → ∃ (o : Int) (t : Nat), Op.lookupswitch.offset ps dflt x = o ∧ (pc : Int) + o = t ∧ k t = some r
  | [], [], _, h => ⟨dflt, d, rfl, hd, h⟩
  | (a, o) :: ps, (v, t) :: tab, ⟨h1, h2, h3⟩, h => by
    subst h1
    unfold zsw at h
    split at h
    · next e =>
      refine ⟨o, t, ?_, h2, h⟩
      rw [Op.lookupswitch.offset_cons, if_pos e.symm]
    · next e =>
      obtain ⟨o', t', q1, q2, q3⟩ := zlkp_in hd h3 h
      refine ⟨o', t', ?_, q2, q3⟩
      rw [Op.lookupswitch.offset_cons, if_neg (fun q => e q.symm), q1]
  | [], _ :: _, hh, _ => hh.elim
  | _ :: _, [], hh, _ => hh.elim
theorem zs_table (C0 : zCtx p s m args c cc nL own A ea X) (hK : zHyp p l e R s m args below meth c Q D as0 ea A nL L0 K r) {d len : Nat} {tab : List (Int × Nat)} {dflt lo hi : Int} {offs : Array Int} (h1 : (pc : Int) + dflt = d) (h2 : ztabOK pc lo offs.toList tab) (h3 : hi + 1 = lo + offs.size) (hd : decode cc pc = .ok (.tableswitch dflt lo hi offs, len)) (h : (zI1 st fun x q => zsw (fun t => K t ls q (L, σ)) d tab x) = some r) : zG p l e R s m args below meth c Q D as0 ea A nL L0 pc ls st (L, σ) := by
  obtain ⟨hx, hb, hml, hown, hts, hA, hE, hN⟩ := C0
  obtain ⟨x, q, rfl, h9⟩ := zI1_some h
  intro as cas tys H locs lsA hw ha hl hst hle
  have hxi : zin x := zv_hd hst
  have hlen : offs.toList.length = offs.size := Array.length_toList
  rcases ztab_in h2 h9 with ⟨q1, q2⟩ | ⟨q1, q2, o, t, q3, q4, q5⟩
  · exact lv_tableOut hx hb hd (by rw [zi_toInt hxi]; omega) h1 ((hK _ _ _ _ q2).2 as cas tys H locs lsA hw ha hl (zv_tl hst) hle)
  · exact lv_tableIn hx hb hd (by rw [zi_toInt hxi]; omega) (by rw [zi_toInt hxi]; omega) (by rw [zi_toInt hxi, ← Array.getElem?_toList]; exact q3) q4 ((hK _ _ _ _ q5).2 as cas tys H locs lsA hw ha hl (zv_tl hst) hle)
theorem zs_lookup (C0 : zCtx p s m args c cc nL own A ea X) (hK : zHyp p l e R s m args below meth c Q D as0 ea A nL L0 K r) {d len : Nat} {tab : List (Int × Nat)} {dflt : Int} {ps : Array (Int × Int)} (h1 : (pc : Int) + dflt = d) (h2 : zlkpOK pc ps.toList tab) (h3 : (ps.toList.zip (ps.toList.drop 1)).all (fun (a, next) => a.1 < next.1) = true) (hd : decode cc pc = .ok (.lookupswitch dflt ps, len)) (h : (zI1 st fun x q => zsw (fun t => K t ls q (L, σ)) d tab x) = some r) : zG p l e R s m args below meth c Q D as0 ea A nL L0 pc ls st (L, σ) := by
  obtain ⟨hx, hb, hml, hown, hts, hA, hE, hN⟩ := C0
  obtain ⟨x, q, rfl, h9⟩ := zI1_some h
  intro as cas tys H locs lsA hw ha hl hst hle
  have hxi : zin x := zv_hd hst
  obtain ⟨o, t, q1, q2, q3⟩ := zlkp_in h1 h2 h9
  exact lv_lookup hx hb hd h3 (by rw [zi_toInt hxi]; exact q1) q2 ((hK _ _ _ _ q3).2 as cas tys H locs lsA hw ha hl (zv_tl hst) hle)
end
end
section
/-! soundness of one step: the heap -/
section
variable {p : Program} {l : Launch} {e : Env} {R : Room} {s : State} {m : MethodId} {args : Array Value} {below : List Frame} {meth : Method} {c : Code} {Q : State → Prop} {D : va_G} {as0 ea : Nat → Nat} {A : Nat → Prop} {nL : Nat} {L0 : List zS} {cc : ByteArray} {own nm : String} {X : zX} {r : zR} {K : zK} {pc : Nat} {ls : zL} {st : List zV} {L : List zS} {σ : zF} {ret : Option FieldType}
theorem zs_getfield (C0 : zCtx p s m args c cc nL own A ea X) (hK : zHyp p l e R s m args below meth c Q D as0 ea A nL L0 K r) {k a b : Nat} (hf : zfldOK own k a b) (hd : decode cc pc = .ok (.getfield k, 3)) (h : (zR1 st fun o q => zfld L o a b (K (pc + 3) ls (.inr (.inl (σ o b)) :: q) (L, σ)) (fun t => K (pc + 3) ls (.inl (some t) :: q) (L, σ))) = some r) : zG p l e R s m args below meth c Q D as0 ea A nL L0 pc ls st (L, σ) := by
  obtain ⟨hx, hb, hml, hown, hts, hA, hE, hN⟩ := C0
  obtain ⟨o, q, rfl, h9⟩ := zR1_some h
  obtain ⟨fs, hL, h9⟩ := zfld_some h9
  obtain ⟨C, T, N, f1, f2, f3, f4⟩ := hf
  intro as cas tys H locs lsA hw ha hl hst hle
  obtain ⟨wK, wP, wD, wS, wH, wT⟩ := id hw
  have hz : zad as ea o = as o := zad_lt wH hL
  have hg := zget_some (as := as) (ea := ea) (cas := cas) (σ := σ) hL
  show W _ _ _ _ _ _ _ _ _ _ _ _ _ _ _ (F0 m pc lsA (Value.ref (zad as ea o) :: q.map (zc (zad as ea))))
  rw [hz]
  rcases h9 with ⟨e1, hk⟩ | ⟨t, e1, hk⟩
  · refine va_get (D := D) (v := .int (Int32.ofInt (σ o b))) hx hb hts (zF_all a C T N f1) hown wK wP o hg f1 b f2 (hts _ (zTb_in f4 rfl)) (fun x h9 => by rw [f3] at h9; exact h9) ?_ hd ?_
    · rw [List.getElem?_mapIdx, e1]
      rfl
    · exact (hK _ _ _ _ hk).2 as cas tys H locs lsA hw ha hl (zv_cons (znum_f wH hL b) (zv_tl hst)) hle
  · refine va_get (D := D) (v := .ref (zad as ea t)) hx hb hts (zF_all a C T N f1) hown wK wP o hg f1 b f2 (hts _ (zTb_in f4 rfl)) (fun x h9 => by rw [f3] at h9; exact h9) ?_ hd ?_
    · rw [List.getElem?_mapIdx, e1]
      rfl
    · exact (hK _ _ _ _ hk).2 as cas tys H locs lsA hw ha hl (zv_cons (Or.inl ((wH.1 o _ hL).1.1 t (List.mem_of_getElem? e1))) (zv_tl hst)) hle
theorem zset_self {L : List zS} {o : Nat} {x : zS} (h : L[o]? = some x) : L.set o x = L := by
  apply List.ext_getElem?
  intro j
  rw [List.getElem?_set]
  split
  · next e =>
    subst e
    rw [if_pos (List.getElem?_eq_some_iff.mp h).1, h]
  · rfl
theorem zput_some {L : List zS} {σ : zF} {st : List zV} {a b c : Nat} {k : List zV → zH → Option zR} {r : zR} (h : zput L σ st a b c k = some r) : (∃ x o q fs, st = .inr (.inl x) :: .inl (some o) :: q ∧ L[o]? = some (.inr (a, fs)) ∧ fs[b]? = some none ∧ (c = 0 ∨ (c = 1 ∧ (x = 0 ∨ x = 1))) ∧ k q (L, zset σ o b x) = some r) ∨ ∃ t o q fs y, st = .inl (some t) :: .inl (some o) :: q ∧ L[o]? = some (.inr (a, fs)) ∧ fs[b]? = some (some y) ∧ c = 2 ∧ t < L.length ∧ k q (L.set o (.inr (a, fs.set b (some (some t)))), σ) = some r := by
  unfold zput at h
  split at h
  · next x o q =>
    left
    split at h
    · next ci fs e =>
      obtain ⟨h1, h2⟩ := zbif_some h
      rw [Bool.and_eq_true] at h1
      have : ci = a := Nat.eq_of_beq_eq_true h1.1
      subst this
      split at h2
      · next e2 =>
        have hc : c < 2 := by have := h1.2; rwa [Nat.blt_eq] at this
        rcases c with _ | _ | c
        · exact ⟨x, o, q, fs, rfl, e, e2, Or.inl rfl, h2⟩
        · obtain ⟨h3, h4⟩ := zite_none h2
          exact ⟨x, o, q, fs, rfl, e, e2, Or.inr ⟨rfl, h3⟩, h4⟩
        · omega
      · cases h2
    · cases h
  · next t o q =>
    right
    split at h
    · next ci fs e =>
      obtain ⟨h1, h2⟩ := zbif_some h
      rw [Bool.and_eq_true, Bool.and_eq_true] at h1
      have : ci = a := Nat.eq_of_beq_eq_true h1.1
      subst this
      split at h2
      · next y e2 =>
        have hc : t < L.length := by have := h1.2.2; rwa [Nat.blt_eq] at this
        exact ⟨t, o, q, fs, y, rfl, e, e2, Nat.eq_of_beq_eq_true h1.2.1, hc, h2⟩
      · cases h2
    · cases h
  · cases h
theorem zHok_setr {L : List zS} {σ : zF} {o a b t : Nat} {fs : List (Option (Option Nat))} (h : zHok L σ) (hL : L[o]? = some (.inr (a, fs))) (ht : t < L.length) : zHok (L.set o (.inr (a, fs.set b (some (some t))))) σ := by
  refine ⟨fun j x hx => ?_, by rw [List.length_set]; exact h.2⟩
  rw [List.length_set]
  rw [List.getElem?_set] at hx
  split at hx
  · next e =>
    subst e
    split at hx
    · cases hx
      obtain ⟨⟨h1, q, h2, h3⟩, h4⟩ := h.1 o _ hL
      refine ⟨⟨fun t' ht' => ?_, q, h2, by rw [List.length_set]; exact h3⟩, h4⟩
      rcases List.mem_or_eq_of_mem_set ht' with q9 | q9
      · exact h1 t' q9
      · cases q9; exact ht
    · cases hx
  · exact h.1 j x hx
theorem zHok_seta {L : List zS} {σ : zF} {o n i t : Nat} {ts : List (Option Nat)} (h : zHok L σ) (hL : L[o]? = some (.inl (2, n, ts))) (ht : t < L.length) : zHok (L.set o (.inl (2, n, ts.set i (some t)))) σ := by
  refine ⟨fun j x hx => ?_, by rw [List.length_set]; exact h.2⟩
  rw [List.length_set]
  rw [List.getElem?_set] at hx
  split at hx
  · next e =>
    subst e
    split at hx
    · cases hx
      obtain ⟨⟨h1, h2, h3, h5⟩, h4⟩ := h.1 o _ hL
      refine ⟨⟨h1, h2, fun t' ht' => ?_, fun _ => by rw [List.length_set]; exact h5 rfl⟩, h4⟩
      rcases List.mem_or_eq_of_mem_set ht' with q9 | q9
      · exact h3 t' q9
      · cases q9; exact ht
    · cases hx
  · exact h.1 j x hx
theorem zwT_set {L : List zS} {cas : Nat → ClassId} {tys : List (ClassId × FieldType)} {o : Nat} {x y : zS} (wT : ∀ (k tag n : Nat) (ts : List (Option Nat)), L[k]? = some (.inl (tag, n, ts)) → ∃ t0 : Nat, tys[t0]? = some (cas k, zty tag)) (hL : L[o]? = some x) (hxy : ∀ tag n ts, y = .inl (tag, n, ts) → ∃ n' ts', x = .inl (tag, n', ts')) : ∀ (k tag n : Nat) (ts : List (Option Nat)), (L.set o y)[k]? = some (.inl (tag, n, ts)) → ∃ t0 : Nat, tys[t0]? = some (cas k, zty tag) := by
  intro k tag n ts h
  rw [List.getElem?_set] at h
  split at h
  · next e =>
    subst e
    split at h
    · cases h
      obtain ⟨n', ts', rfl⟩ := hxy tag n ts rfl
      exact wT _ _ _ _ hL
    · cases h
  · exact wT _ _ _ _ h
theorem zs_putfield (C0 : zCtx p s m args c cc nL own A ea X) (hK : zHyp p l e R s m args below meth c Q D as0 ea A nL L0 K r) {k a b c1 : Nat} (hin : nm = "<init>" → meth.name = "<init>") (hf : zputOK own nm k a b c1) (hd : decode cc pc = .ok (.putfield k, 3)) (h : (zput L σ st a b c1 fun q h => K (pc + 3) ls q h) = some r) : zG p l e R s m args below meth c Q D as0 ea A nL L0 pc ls st (L, σ) := by
  obtain ⟨hx, hb, hml, hown, hts, hA, hE, hN⟩ := C0
  obtain ⟨C, T, N, ty, f1, f2, f3, f4, f5, f6⟩ := hf
  obtain ⟨ty0, -, g2, g3⟩ := zTy_all a C T N f1
  rcases zput_some h with ⟨x, o, q, fs, rfl, hL, e1, hc, hk⟩ | ⟨t, o, q, fs, y, rfl, hL, e1, hc, htl, hk⟩
  · intro as cas tys H locs lsA hw ha hl hst hle
    obtain ⟨wK, wP, wD, wS, wH, wT⟩ := id hw
    have hz : zad as ea o = as o := zad_lt wH hL
    have hg := zget_some (as := as) (ea := ea) (cas := cas) (σ := σ) hL
    have hxi : zin x := zv_hd hst
    show W _ _ _ _ _ _ _ _ _ _ _ _ _ _ _ (F0 m pc lsA (Value.int (Int32.ofInt x) :: Value.ref (zad as ea o) :: q.map (zc (zad as ea))))
    rw [hz]
    have hty : (T b).2.2.2 = false ∧ narrow ty (.int (Int32.ofInt x)) = .int (Int32.ofInt x) ∧ fits ty (.int (Int32.ofInt x)) = true := by
      rcases f6 with ⟨c0, t0, fi⟩ | ⟨c0, t0, fi⟩ | ⟨c0, -⟩
      · subst t0
        exact ⟨fi, rfl, rfl⟩
      · subst t0
        rcases hc with hc | ⟨-, rfl | rfl⟩
        · omega
        · exact ⟨fi, by decide, by decide⟩
        · exact ⟨fi, by decide, by decide⟩
      · omega
    refine va_put (D := D) (ty := ty) hx hb hts (zF_all a C T N f1) ty0 g2 g3 hown wK wP wD wS o hg f1 b f2 (hts _ (zTb_in f4 rfl)) (fun x h9 => by rw [f3] at h9; exact h9) hty.1 f5 hty.2.1 hty.2.2 (by rw [List.length_mapIdx]; exact (List.getElem?_eq_some_iff.mp e1).1) hd (fun H1 locs1 hP1 hD1 hS1 => ?_)
    have hset : (zws as ea cas L σ).set o (as o, .inr (a, (fs.mapIdx (zfv (zad as ea) (σ o))).set b (.int (Int32.ofInt x)))) = zws as ea cas L (zset σ o b x) := by
      have := zws_set (as := as) (ea := ea) (cas := cas) (σ := σ) (σ' := zset σ o b x) (s' := .inr (a, fs)) hL (fun j hj => zset_o hj) (zcell_setf e1)
      rw [this]
      congr 1
      exact zset_self hL
    rw [hset] at hP1 hD1
    exact (hK _ _ _ _ hk).2 as cas tys H1 locs1 lsA ⟨wK, hP1, hD1, hS1, zHok_set wH (fun s9 h9 => by rw [hL] at h9; cases h9; exact fun _ => hxi), wT⟩ ha hl (zv_tl (zv_tl hst)) hle
  · intro as cas tys H locs lsA hw ha hl hst hle
    obtain ⟨wK, wP, wD, wS, wH, wT⟩ := id hw
    have hz : zad as ea o = as o := zad_lt wH hL
    have hg := zget_some (as := as) (ea := ea) (cas := cas) (σ := σ) hL
    show W _ _ _ _ _ _ _ _ _ _ _ _ _ _ _ (F0 m pc lsA (Value.ref (zad as ea t) :: Value.ref (zad as ea o) :: q.map (zc (zad as ea))))
    rw [hz]
    rcases f6 with ⟨c0, -⟩ | ⟨c0, -⟩ | ⟨-, t0, fi, hnm, hdecl⟩
    · omega
    · omega
    have hty : narrow ty (.ref (zad as ea t)) = .ref (zad as ea t) ∧ fits ty (.ref (zad as ea t)) = true := by
      rcases t0 with ⟨n, rfl⟩ | ⟨n, rfl⟩
      · exact ⟨rfl, rfl⟩
      · exact ⟨rfl, rfl⟩
    have hbl : b < fs.length := (List.getElem?_eq_some_iff.mp e1).1
    refine va_putF (D := D) (ty := ty) hx hb hts (zF_all a C T N f1) ty0 g2 g3 hown wK wP wD wS o hg f1 b f2 (hts _ (zTb_in f4 rfl)) (fun x h9 => by rw [f3] at h9; exact h9) fi (hin hnm) hdecl f5 hty.1 hty.2 (by rw [List.length_mapIdx]; exact hbl) hd (fun H1 locs1 hP1 hD1 hS1 => ?_)
    have hset := zws_set (as := as) (ea := ea) (cas := cas) (σ := σ) (σ' := σ) (s' := .inr (a, fs.set b (some (some t)))) hL (fun j hj => rfl) (zcell_setr hbl)
    rw [hset] at hP1 hD1
    have hlen : (L.set o (.inr (a, fs.set b (some (some t))))).length = L.length := List.length_set
    have hsl : zslots (L.set o (.inr (a, fs.set b (some (some t))))) = zslots L := zslots_set L o _ _ hL (by simp [zsz])
    have key := (hK _ _ _ _ hk).2 as cas tys H1 locs1 lsA ⟨wK, hP1, hD1, hS1, zHok_setr wH hL htl, zwT_set wT hL (fun _ _ _ q9 => by cases q9)⟩ ha (by rw [hlen]; exact hl) (by rw [hlen]; exact zv_tl (zv_tl hst)) ⟨by rw [hlen]; exact hle.1, by rw [hsl]; exact hle.2⟩
    rw [hlen, hsl] at key
    exact key
theorem zs_getstatic (C0 : zCtx p s m args c cc nL own A ea X) (hK : zHyp p l e R s m args below meth c Q D as0 ea A nL L0 K r) {k a b : Nat} (hb1 : b = 1000 + a) (hf : ∃ nm', zstat[a]? = some nm' ∧ Jvm.Cond.fieldLink own k RX8 nm' "[I" ∈ lw_tbl) (hd : decode cc pc = .ok (.getstatic k, 3)) (h : K (pc + 3) ls (.inl (some b) :: st) (L, σ) = some r) : zG p l e R s m args below meth c Q D as0 ea A nL L0 pc ls st (L, σ) := by
  obtain ⟨hx, hb, hml, hown, hts, hA, hE, hN⟩ := C0
  obtain ⟨nm', f1, f2⟩ := hf
  intro as cas tys H locs lsA hw ha hl hst hle
  obtain ⟨wK, wP, wD, wS, wH, wT⟩ := id hw
  refine va_gets (v := .ref (ea a)) hx hb (hE.1 a nm' f1) wS hown (hts _ (zTb_in f2 rfl)) (fun x h9 => h9) hd ?_
  have key := (hK _ _ _ _ h).2 as cas tys H locs lsA hw ha hl (zv_cons (Or.inr (by omega)) hst) hle
  have hz : zc (zad as ea) (.inl (some b)) = .ref (ea a) := by
    show Value.ref (zad as ea b) = _
    rw [zad_ge (by omega), show b - 1000 = a by omega]
  rw [List.map_cons, hz] at key
  exact key
theorem zs_iaload (C0 : zCtx p s m args c cc nL own A ea X) (hK : zHyp p l e R s m args below meth c Q D as0 ea A nL L0 K r) (hd : decode cc pc = .ok (.iaload, 1)) (h : (zI1 st fun i q => zR1 q fun o q => zia X L σ o i fun v => K (pc + 1) ls (.inr (.inl v) :: q) (L, σ)) = some r) : zG p l e R s m args below meth c Q D as0 ea A nL L0 pc ls st (L, σ) := by
  obtain ⟨hx, hb, hml, hown, hts, hA, hE, hN⟩ := C0
  obtain ⟨i, q1, rfl, h8⟩ := zI1_some h
  obtain ⟨o, q, rfl, h9⟩ := zR1_some h8
  intro as cas tys H locs lsA hw ha hl hst hle
  obtain ⟨wK, wP, wD, wS, wH, wT⟩ := id hw
  have hii : zin i := zv_hd hst
  show W _ _ _ _ _ _ _ _ _ _ _ _ _ _ _ (F0 m pc lsA (Value.int (Int32.ofInt i) :: Value.ref (zad as ea o) :: q.map (zc (zad as ea))))
  have h9 := h9
  rcases zia_some h9 with ⟨n, ts, hL, i0, i1, hk⟩ | ⟨n, f, ho, hX, i0, i1, hk⟩
  · have hz : zad as ea o = as o := zad_lt wH hL
    have hg := zget_some (as := as) (ea := ea) (cas := cas) (σ := σ) hL
    obtain ⟨t0, ht0⟩ := wT o 0 n ts hL
    rw [hz]
    refine va_iald (D := D) hx hb wK wP o t0 hg ht0 (zi_vin hii i0 i1) hd ?_
    rw [zi_clamp hii, show ((i.toNat : Nat) : Int) = i by omega]
    exact (hK _ _ _ _ hk).2 as cas tys H locs lsA hw ha hl (zv_cons (znum_i wH hL i) (zv_tl (zv_tl hst))) hle
  · obtain ⟨hT, hn, hf⟩ := hE.2 _ n f hX
    rw [zad_ge ho]
    refine va_ti hx hb hT wS (zi_vin hii i0 i1) rfl hd ?_
    rw [zi_clamp hii]
    exact (hK _ _ _ _ hk).2 as cas tys H locs lsA hw ha hl (zv_cons (hf _) (zv_tl (zv_tl hst))) hle
theorem zs_arraylength (C0 : zCtx p s m args c cc nL own A ea X) (hK : zHyp p l e R s m args below meth c Q D as0 ea A nL L0 K r) (hd : decode cc pc = .ok (.arraylength, 1)) (h : (zR1 st fun o q => zlen X L o fun n => K (pc + 1) ls (.inr (.inl n) :: q) (L, σ)) = some r) : zG p l e R s m args below meth c Q D as0 ea A nL L0 pc ls st (L, σ) := by
  obtain ⟨hx, hb, hml, hown, hts, hA, hE, hN⟩ := C0
  obtain ⟨o, q, rfl, h9⟩ := zR1_some h
  intro as cas tys H locs lsA hw ha hl hst hle
  obtain ⟨wK, wP, wD, wS, wH, wT⟩ := id hw
  show W _ _ _ _ _ _ _ _ _ _ _ _ _ _ _ (F0 m pc lsA (Value.ref (zad as ea o) :: q.map (zc (zad as ea))))
  rcases zlen_some h9 with ⟨t, n, ts, hL, hk⟩ | ⟨n, f, ho, hX, hk⟩
  · have hz : zad as ea o = as o := zad_lt wH hL
    have hg := zget_some (as := as) (ea := ea) (cas := cas) (σ := σ) hL
    obtain ⟨t0, ht0⟩ := wT o t n ts hL
    obtain ⟨hn1, hn2, -⟩ := (wH.1 o _ hL).1
    rw [hz]
    have key := (hK _ _ _ _ hk).2 as cas tys H locs lsA hw ha hl (zv_cons (show zin (n : Int) by unfold zin; omega) (zv_tl hst)) hle
    rcases t with _ | _ | t
    · exact va_alen (D := D) hx hb wK wP o t0 hg ht0 rfl hd key
    · exact va_alen (D := D) hx hb wK wP o t0 hg ht0 rfl hd key
    · exact va_alen (D := D) hx hb wK wP o t0 hg ht0 rfl hd key
  · obtain ⟨hT, hn, hf⟩ := hE.2 _ n f hX
    rw [zad_ge ho]
    exact va_tlen hx hb hT wS rfl hd ((hK _ _ _ _ hk).2 as cas tys H locs lsA hw ha hl (zv_cons (show zin (n : Int) by unfold zin; omega) (zv_tl hst)) hle)
theorem zs_laload (C0 : zCtx p s m args c cc nL own A ea X) (hK : zHyp p l e R s m args below meth c Q D as0 ea A nL L0 K r) (hd : decode cc pc = .ok (.laload, 1)) (h : (zI1 st fun i q => zR1 q fun o q => zar L 1 o i (K (pc + 1) ls (.inr (.inr (σ o i)) :: q) (L, σ))) = some r) : zG p l e R s m args below meth c Q D as0 ea A nL L0 pc ls st (L, σ) := by
  obtain ⟨hx, hb, hml, hown, hts, hA, hE, hN⟩ := C0
  obtain ⟨i, q1, rfl, h8⟩ := zI1_some h
  obtain ⟨o, q, rfl, h9⟩ := zR1_some h8
  intro as cas tys H locs lsA hw ha hl hst hle
  obtain ⟨wK, wP, wD, wS, wH, wT⟩ := id hw
  have hii : zin i := zv_hd hst
  obtain ⟨n, ts, hL, i0, i1, hk⟩ := zar_some h9
  show W _ _ _ _ _ _ _ _ _ _ _ _ _ _ _ (F0 m pc lsA (Value.int (Int32.ofInt i) :: Value.ref (zad as ea o) :: q.map (zc (zad as ea))))
  have hz : zad as ea o = as o := zad_lt wH hL
  have hg := zget_some (as := as) (ea := ea) (cas := cas) (σ := σ) hL
  obtain ⟨t0, ht0⟩ := wT o 1 n ts hL
  rw [hz]
  refine va_lald (D := D) hx hb wK wP o t0 hg ht0 (zi_vin hii i0 i1) hd ?_
  rw [zi_clamp hii, show ((i.toNat : Nat) : Int) = i by omega]
  exact (hK _ _ _ _ hk).2 as cas tys H locs lsA hw ha hl (zv_cons (znum_j wH hL i) (zv_tl (zv_tl hst))) hle
theorem zws_same {as ea : Nat → Nat} {cas : Nat → ClassId} {L : List zS} {σ : zF} {o : Nat} {x : zS} {i v : Int} {e : va_E} (hL : L[o]? = some x) (he : zcell (zad as ea) (cas o) (zset σ o i v o) x = e) : (zws as ea cas L σ).set o (as o, e) = zws as ea cas L (zset σ o i v) := by
  have := zws_set (as := as) (ea := ea) (cas := cas) (σ := σ) (σ' := zset σ o i v) (s' := x) hL (fun j hj => zset_o hj) he
  rw [this]
  congr 1
  exact zset_self hL
theorem zs_iastore (C0 : zCtx p s m args c cc nL own A ea X) (hK : zHyp p l e R s m args below meth c Q D as0 ea A nL L0 K r) (hd : decode cc pc = .ok (.iastore, 1)) (h : (zI1 st fun x q => zI1 q fun i q => zR1 q fun o q => zar L 0 o i (K (pc + 1) ls q (L, zset σ o i x))) = some r) : zG p l e R s m args below meth c Q D as0 ea A nL L0 pc ls st (L, σ) := by
  obtain ⟨hx, hb, hml, hown, hts, hA, hE, hN⟩ := C0
  obtain ⟨x, q1, rfl, h7⟩ := zI1_some h
  obtain ⟨i, q2, rfl, h8⟩ := zI1_some h7
  obtain ⟨o, q, rfl, h9⟩ := zR1_some h8
  intro as cas tys H locs lsA hw ha hl hst hle
  obtain ⟨wK, wP, wD, wS, wH, wT⟩ := id hw
  have hii : zin i := zv_hd (zv_tl hst)
  obtain ⟨n, ts, hL, i0, i1, hk⟩ := zar_some h9
  show W _ _ _ _ _ _ _ _ _ _ _ _ _ _ _ (F0 m pc lsA (Value.int (Int32.ofInt x) :: Value.int (Int32.ofInt i) :: Value.ref (zad as ea o) :: q.map (zc (zad as ea))))
  have hz : zad as ea o = as o := zad_lt wH hL
  have hg := zget_some (as := as) (ea := ea) (cas := cas) (σ := σ) hL
  obtain ⟨t0, ht0⟩ := wT o 0 n ts hL
  rw [hz]
  refine va_iast (D := D) hx hb wK wP wD wS o t0 hg ht0 (zi_vin hii i0 i1) hd (fun H1 locs1 hP1 hD1 hS1 => ?_)
  rw [zi_clamp hii, zws_same hL (zcell_seti (ts := ts) i0)] at hP1 hD1
  exact (hK _ _ _ _ hk).2 as cas tys H1 locs1 lsA ⟨wK, hP1, hD1, hS1, zHok_set wH (fun s9 h9 => by rw [hL] at h9; cases h9; exact fun _ => zv_hd hst), wT⟩ ha hl (zv_tl (zv_tl (zv_tl hst))) hle
theorem zs_lastore (C0 : zCtx p s m args c cc nL own A ea X) (hK : zHyp p l e R s m args below meth c Q D as0 ea A nL L0 K r) (hd : decode cc pc = .ok (.lastore, 1)) (h : (zJ1 st fun x q => zI1 q fun i q => zR1 q fun o q => zar L 1 o i (K (pc + 1) ls q (L, zset σ o i x))) = some r) : zG p l e R s m args below meth c Q D as0 ea A nL L0 pc ls st (L, σ) := by
  obtain ⟨hx, hb, hml, hown, hts, hA, hE, hN⟩ := C0
  obtain ⟨x, q1, rfl, h7⟩ := zJ1_some h
  obtain ⟨i, q2, rfl, h8⟩ := zI1_some h7
  obtain ⟨o, q, rfl, h9⟩ := zR1_some h8
  intro as cas tys H locs lsA hw ha hl hst hle
  obtain ⟨wK, wP, wD, wS, wH, wT⟩ := id hw
  have hii : zin i := zv_hd (zv_tl hst)
  obtain ⟨n, ts, hL, i0, i1, hk⟩ := zar_some h9
  show W _ _ _ _ _ _ _ _ _ _ _ _ _ _ _ (F0 m pc lsA (Value.long (Int64.ofInt x) :: Value.int (Int32.ofInt i) :: Value.ref (zad as ea o) :: q.map (zc (zad as ea))))
  have hz : zad as ea o = as o := zad_lt wH hL
  have hg := zget_some (as := as) (ea := ea) (cas := cas) (σ := σ) hL
  obtain ⟨t0, ht0⟩ := wT o 1 n ts hL
  rw [hz]
  refine va_last (D := D) hx hb wK wP wD wS o t0 hg ht0 (zi_vin hii i0 i1) hd (fun H1 locs1 hP1 hD1 hS1 => ?_)
  rw [zi_clamp hii, zws_same hL (zcell_setj (ts := ts) i0)] at hP1 hD1
  exact (hK _ _ _ _ hk).2 as cas tys H1 locs1 lsA ⟨wK, hP1, hD1, hS1, zHok_set wH (fun s9 h9 => by rw [hL] at h9; cases h9; exact fun _ => zv_hd hst), wT⟩ ha hl (zv_tl (zv_tl (zv_tl hst))) hle
theorem zs_aaload (C0 : zCtx p s m args c cc nL own A ea X) (hK : zHyp p l e R s m args below meth c Q D as0 ea A nL L0 K r) (hd : decode cc pc = .ok (.aaload, 1)) (h : (zI1 st fun i q => zR1 q fun o q => zaa L o i fun t => K (pc + 1) ls (.inl (some t) :: q) (L, σ)) = some r) : zG p l e R s m args below meth c Q D as0 ea A nL L0 pc ls st (L, σ) := by
  obtain ⟨hx, hb, hml, hown, hts, hA, hE, hN⟩ := C0
  obtain ⟨i, q1, rfl, h8⟩ := zI1_some h
  obtain ⟨o, q, rfl, h9⟩ := zR1_some h8
  intro as cas tys H locs lsA hw ha hl hst hle
  obtain ⟨wK, wP, wD, wS, wH, wT⟩ := id hw
  have hii : zin i := zv_hd hst
  obtain ⟨n, ts, t, hL, i0, i1, hts2, hk⟩ := zaa_some h9
  show W _ _ _ _ _ _ _ _ _ _ _ _ _ _ _ (F0 m pc lsA (Value.int (Int32.ofInt i) :: Value.ref (zad as ea o) :: q.map (zc (zad as ea))))
  have hz : zad as ea o = as o := zad_lt wH hL
  have hg := zget_some (as := as) (ea := ea) (cas := cas) (σ := σ) hL
  obtain ⟨t0, ht0⟩ := wT o 2 n ts hL
  rw [hz]
  refine va_aldq (D := D) (C := RX7) hx hb wK wP o t0 hg ht0 (zi_vin hii i0 i1) hd ?_
  rw [zi_clamp hii, show ts.getD i.toNat none = some t by simp [List.getD, hts2]]
  exact (hK _ _ _ _ hk).2 as cas tys H locs lsA hw ha hl (zv_cons (Or.inl ((wH.1 o _ hL).1.2.2.1 t (List.mem_of_getElem? hts2))) (zv_tl (zv_tl hst))) hle
theorem zast_some {L : List zS} {σ : zF} {st : List zV} {k : List zV → zH → Option zR} {r : zR} (h : zast L σ st k = some r) : ∃ t i o q n ts fs, st = .inl (some t) :: .inr (.inl i) :: .inl (some o) :: q ∧ L[o]? = some (.inl (2, n, ts)) ∧ L[t]? = some (.inr (7, fs)) ∧ 0 ≤ i ∧ i < (n : Int) ∧ k q (L.set o (.inl (2, n, ts.set i.toNat (some t))), σ) = some r := by
  unfold zast at h
  split at h
  · next t i o q =>
    split at h
    · next n ts fs e1 e2 =>
      obtain ⟨h3, h4⟩ := zite_none h
      exact ⟨t, i, o, q, n, ts, fs, rfl, e1, e2, h3.1, h3.2, h4⟩
    · cases h
  · cases h
theorem zs_aastore (C0 : zCtx p s m args c cc nL own A ea X) (hK : zHyp p l e R s m args below meth c Q D as0 ea A nL L0 K r) (hd : decode cc pc = .ok (.aastore, 1)) (h : (zast L σ st fun q h => K (pc + 1) ls q h) = some r) : zG p l e R s m args below meth c Q D as0 ea A nL L0 pc ls st (L, σ) := by
  obtain ⟨hx, hb, hml, hown, hts, hA, hE, hN⟩ := C0
  obtain ⟨t, i, o, q, n, ts, fs, rfl, hL, hLt, i0, i1, hk⟩ := zast_some h
  intro as cas tys H locs lsA hw ha hl hst hle
  obtain ⟨wK, wP, wD, wS, wH, wT⟩ := id hw
  have hii : zin i := zv_hd (zv_tl hst)
  show W _ _ _ _ _ _ _ _ _ _ _ _ _ _ _ (F0 m pc lsA (Value.ref (zad as ea t) :: Value.int (Int32.ofInt i) :: Value.ref (zad as ea o) :: q.map (zc (zad as ea))))
  have hz : zad as ea o = as o := zad_lt wH hL
  have hzt : zad as ea t = as t := zad_lt wH hLt
  have hg := zget_some (as := as) (ea := ea) (cas := cas) (σ := σ) hL
  have hgt := zget_some (as := as) (ea := ea) (cas := cas) (σ := σ) hLt
  obtain ⟨t0, ht0⟩ := wT o 2 n ts hL
  have hln : i.toNat < ts.length := by
    have := (wH.1 o _ hL).1.2.2.2 rfl
    omega
  have hset := zws_set (as := as) (ea := ea) (cas := cas) (σ := σ) (σ' := σ) (s' := .inl (2, n, ts.set i.toNat (some t))) hL (fun j hj => rfl) (zcell_seta (ad := zad as ea) (ca := cas o) (f := σ o) (n := n) (t := t) hln)
  rw [hz, hzt]
  refine va_astq (D := D) (r := (RX7, TX7, 4)) hx hb wK wP wD wS o t0 t 7 hg ht0 hgt rfl (zi_vin hii i0 i1) hd (fun H1 locs1 hP1 hD1 hS1 => ?_)
  rw [← hzt, zi_clamp hii, hset] at hP1 hD1
  have hlen : (L.set o (.inl (2, n, ts.set i.toNat (some t)))).length = L.length := List.length_set
  have hsl : zslots (L.set o (.inl (2, n, ts.set i.toNat (some t)))) = zslots L := zslots_set L o _ _ hL rfl
  have htl : t < L.length := (List.getElem?_eq_some_iff.mp hLt).1
  have key := (hK _ _ _ _ hk).2 as cas tys H1 locs1 lsA ⟨wK, hP1, hD1, hS1, zHok_seta wH hL htl, zwT_set wT hL (fun _ _ _ q9 => by cases q9; exact ⟨_, _, rfl⟩)⟩ ha (by rw [hlen]; exact hl) (by rw [hlen]; exact zv_tl (zv_tl (zv_tl hst))) ⟨by rw [hlen]; exact hle.1, by rw [hsl]; exact hle.2⟩
  rw [hlen, hsl] at key
  exact key
end
end
section
/-! soundness of one step: what is made; the library's three; ends -/
theorem zz_o {σ : zF} {k j : Nat} (h : j ≠ k) : zz σ k j = σ j := by
  funext i
  unfold zz
  rw [if_neg h]
theorem zz_at {σ : zF} {k : Nat} {i : Int} : zz σ k k i = 0 := by
  unfold zz
  rw [if_pos rfl]
theorem zHok_app {L : List zS} {σ : zF} {x : zS} (h : zHok L σ) (hL : L.length < 1000) (hx : zsok (L.length + 1) x) : zHok (L ++ [x]) (zz σ L.length) := by
  have hlen : (L ++ [x]).length = L.length + 1 := by simp
  refine ⟨fun j y hy => ?_, by omega⟩
  rw [hlen]
  rw [List.getElem?_append] at hy
  split at hy
  · next hj =>
    obtain ⟨h1, h2⟩ := h.1 j y hy
    refine ⟨zsok_mono (Nat.le_succ _) h1, ?_⟩
    rw [zz_o (by omega)]
    exact h2
  · next hj =>
    have hjl : j - L.length = 0 := by
      rcases hd : j - L.length with _ | d
      · rfl
      · rw [hd] at hy; simp at hy
    rw [hjl] at hy
    simp at hy
    subst hy
    have : j = L.length := by omega
    subst this
    refine ⟨hx, ?_⟩
    rcases x with ⟨_ | _ | tag, n, ts⟩ | ⟨c, fs⟩
    all_goals
      intro i
      rw [zz_at]
      first | (unfold zin; omega) | (unfold zinl; omega)
theorem zwT_app {L : List zS} {cas : Nat → ClassId} {tys : List (ClassId × FieldType)} {x : zS} {cA : ClassId} {ty : FieldType} (wT : ∀ (k tag n : Nat) (ts : List (Option Nat)), L[k]? = some (.inl (tag, n, ts)) → ∃ t0 : Nat, tys[t0]? = some (cas k, zty tag)) (hx : ∀ tag n ts, x = .inl (tag, n, ts) → zty tag = ty) : ∀ (k tag n : Nat) (ts : List (Option Nat)), (L ++ [x])[k]? = some (.inl (tag, n, ts)) → ∃ t0 : Nat, (tys ++ [(cA, ty)])[t0]? = some ((fun j => if j = L.length then cA else cas j) k, zty tag) := by
  intro k tag n ts h
  rw [List.getElem?_append] at h
  split at h
  · next hk =>
    obtain ⟨t0, ht0⟩ := wT k tag n ts h
    refine ⟨t0, ?_⟩
    rw [List.getElem?_append_left (List.getElem?_eq_some_iff.mp ht0).1, ht0]
    simp only [if_neg (show ¬ k = L.length by omega)]
  · next hk =>
    have hjl : k - L.length = 0 := by
      rcases hd : k - L.length with _ | d
      · rfl
      · rw [hd] at h; simp at h
    rw [hjl] at h
    simp at h
    refine ⟨tys.length, ?_⟩
    rw [List.getElem?_append_right (Nat.le_refl _)]
    simp only [if_pos (show k = L.length by omega), hx tag n ts h]
    simp
theorem zfk_get (q : (Nat → FieldType) × Nat) (j : Nat) : (zfkOf q)[j]? = if j < q.2 then some (match q.1 j with
  | .int => none
  | .boolean => none
  | _ => some none) else none := by
  unfold zfkOf
  rw [List.getElem?_map]
  by_cases h : j < q.2
  · rw [if_pos h, List.getElem?_range h]
    rfl
  · rw [if_neg h, List.getElem?_eq_none (by simp; omega)]
    rfl
theorem zfk_len (q : (Nat → FieldType) × Nat) : (zfkOf q).length = q.2 := by unfold zfkOf; simp
section
variable {p : Program} {l : Launch} {e : Env} {R : Room} {s : State} {m : MethodId} {args : Array Value} {below : List Frame} {meth : Method} {c : Code} {Q : State → Prop} {D : va_G} {as0 ea : Nat → Nat} {A : Nat → Prop} {nL : Nat} {L0 : List zS} {cc : ByteArray} {own nm : String} {X : zX} {r : zR} {K : zK} {pc : Nat} {ls : zL} {st : List zV} {L : List zS} {σ : zF} {ret : Option FieldType}
/-- behind a making: the world with the new cell -/
theorem zmade {as : Nat → Nat} {cas : Nat → ClassId} {tys : List (ClassId × FieldType)} {H H1 : Heap} {locs : List Loc} {lsA : Array Slot} {x : zS} {q : Nat} {cA : ClassId} {ty : FieldType} {pc' : Nat} {rest : List zV}
    (hk : zle (L ++ [x]) r.2.1 ∧ zG p l e R s m args below meth c Q D as0 ea A nL L0 pc' ls (.inl (some L.length) :: rest) (L ++ [x], zz σ L.length)) (hw : zWd D as ea cas tys A s H locs L σ) (ha : ∀ k, k < L0.length → as k = as0 k) (hl : zLc (zad as ea) L.length lsA nL ls) (hst : ∀ v ∈ rest, zvok L.length v) (hle : zle L0 L) (hL : L.length < 1000) (hx : zsok (L.length + 1) x) (hxt : ∀ tag n ts, x = .inl (tag, n, ts) → zty tag = ty)
    (wK1 : va_K D vwCl (tys ++ [(cA, ty)]) s ∨ ((∀ tag n ts, ¬ x = .inl (tag, n, ts)) ∧ va_K D vwCl tys s)) (hP1 : va_P D vwCl (zws as ea cas L σ ++ [(q, zcell (zad (zup as L.length q) ea) cA (fun _ => 0) x)]) H1) (hD1 : va_D A (zws as ea cas L σ ++ [(q, zcell (zad (zup as L.length q) ea) cA (fun _ => 0) x)])) (hS1 : va_S A s.heap H1 locs) :
    W p l e R s m args below meth c H1 locs (L.length - L0.length + 1) (zslots L - zslots L0 + zsz x) Q (F0 m pc' lsA (.ref q :: rest.map (zc (zad as ea)))) := by
  obtain ⟨wK, wP, wD, wS, wH, wT⟩ := id hw
  have hlen : (L ++ [x]).length = L.length + 1 := by simp
  have happ := zws_app (as := as) (ea := ea) (cas := cas) (cas' := fun j => if j = L.length then cA else cas j) (L := L) (σ := σ) (σ' := zz σ L.length) (q := q) (s := x) hL wH (fun k hk => by simp only [if_neg (show ¬ k = L.length by omega)]) (fun k hk => zz_o (by omega))
  have h0 : zz σ L.length L.length = fun _ => 0 := by funext i; exact zz_at
  simp only [if_pos, h0] at happ
  rw [← happ] at hP1 hD1
  have hex : ∃ tys', va_K D vwCl tys' s ∧ ∀ (k tag n : Nat) (ts : List (Option Nat)), (L ++ [x])[k]? = some (.inl (tag, n, ts)) → ∃ t0 : Nat, tys'[t0]? = some ((fun j => if j = L.length then cA else cas j) k, zty tag) := by
    rcases wK1 with wK1 | ⟨hno, wK1⟩
    · exact ⟨_, wK1, zwT_app wT hxt⟩
    · refine ⟨tys, wK1, fun k tag n ts h => ?_⟩
      rw [List.getElem?_append] at h
      split at h
      · next hk =>
        obtain ⟨t0, ht0⟩ := wT k tag n ts h
        exact ⟨t0, by rw [ht0]; simp only [if_neg (show ¬ k = L.length by omega)]⟩
      · next hk =>
        rcases hd : k - L.length with _ | d
        · rw [hd] at h; simp at h; exact absurd h (hno _ _ _)
        · rw [hd] at h; simp at h
  obtain ⟨tys', wK2, wT2⟩ := hex
  have key := hk.2 (zup as L.length q) (fun j => if j = L.length then cA else cas j) tys' H1 locs lsA ⟨wK2, hP1, hD1, hS1, zHok_app wH hL hx, wT2⟩ (fun k hk => by rw [zup_lt (Nat.lt_of_lt_of_le hk hle.1)]; exact ha k hk) (by rw [hlen]; exact hl.up hL) (zv_cons (Or.inl (by rw [hlen]; omega)) (fun v hv => zvok_mono (by rw [hlen]; omega) (hst v hv))) (zle_tr hle (zle_app _ _))
  have e1 : (L ++ [x]).length - L0.length = L.length - L0.length + 1 := by have := hle.1; rw [hlen]; omega
  have e2 : zslots (L ++ [x]) - zslots L0 = zslots L - zslots L0 + zsz x := by have := hle.2; rw [zslots_app]; omega
  have e3 : zc (zad (zup as L.length q) ea) (.inl (some L.length)) = .ref q := by
    show Value.ref (zad (zup as L.length q) ea L.length) = _
    unfold zad
    rw [if_pos hL, zup_at]
  rw [e1, e2, List.map_cons, e3, zc_map_congr (fun t ht => zad_up hL ht) rest hst] at key
  exact key
theorem znwa_some {L : List zS} {σ : zF} {tag : Nat} {n : Int} {k : zH → Option zR} {r : zR} (h : znwa L σ tag n k = some r) : L.length < 1000 ∧ 0 ≤ n ∧ n ≤ 1000 ∧ k (L ++ [.inl (tag, n.toNat, bif Nat.beq tag 2 then List.replicate n.toNat none else [])], zz σ L.length) = some r := by
  unfold znwa at h
  obtain ⟨h1, h2⟩ := zbif_some h
  obtain ⟨h3, h4⟩ := zite_none h2
  rw [Nat.blt_eq] at h1
  exact ⟨h1, h3.1, h3.2, h4⟩
theorem zs_newarray (C0 : zCtx p s m args c cc nL own A ea X) (hK : zHyp p l e R s m args below meth c Q D as0 ea A nL L0 K r) (hR3 : r.2.1.length - L0.length ≤ R.cells) (hR4 : zslots r.2.1 - zslots L0 ≤ R.slots) {a : Nat} {t : ClassFile.ArrayType} (ht : (a = 0 ∧ t = .int) ∨ (a = 1 ∧ t = .long)) (hd : decode cc pc = .ok (.newarray t, 2)) (h : (zI1 st fun n q => bif Nat.blt a 2 then znwa L σ a n fun h => K (pc + 2) ls (.inl (some L.length) :: q) h else none) = some r) : zG p l e R s m args below meth c Q D as0 ea A nL L0 pc ls st (L, σ) := by
  obtain ⟨hx, hb, hml, hown, hts, hA, hE, hN⟩ := C0
  obtain ⟨n, q, rfl, h9⟩ := zI1_some h
  obtain ⟨-, h8⟩ := zbif_some h9
  obtain ⟨hL, n0, n1, hk⟩ := znwa_some h8
  intro as cas tys H locs lsA hw ha hl hst hle
  obtain ⟨wK, wP, wD, wS, wH, wT⟩ := id hw
  have hni : zin n := zv_hd hst
  have kk := hK _ _ _ _ hk
  have hc1 : L.length - L0.length + 1 ≤ R.cells := by have h1 := kk.1.1; have h2 := hle.1; simp at h1; dsimp only at h2; omega
  have hc2 : zslots L - zslots L0 + n.toNat ≤ R.slots := by
    have h1 := kk.1.2
    have h2 : zslots (L ++ [.inl (a, n.toNat, bif Nat.beq a 2 then List.replicate n.toNat none else [])]) = zslots L + n.toNat := zslots_app _ _
    have h3 := hle.2
    dsimp only at h1 h3
    omega
  show W _ _ _ _ _ _ _ _ _ _ _ _ _ _ _ (F0 m pc lsA (Value.int (Int32.ofInt n) :: q.map (zc (zad as ea))))
  rcases ht with ⟨rfl, rfl⟩ | ⟨rfl, rfl⟩
  · refine va_newa (D := D) (atype := .int) (ty := .int) (a0 := (n.toNat, .inl (fun _ => 0))) hx hb (hts _ zW_arri) rfl wK wP wD wS hA (fun cA => rfl) (zi_neg0 hni n0) (zi_clamp hni) (by show n.toNat * 4 ≤ _; omega) hc1 hc2 hd (fun q1 cA H1 hK1 hP1 hD1 hS1 => ?_)
    exact zmade (x := .inl (0, n.toNat, [])) (cA := cA) (ty := .int) kk hw ha hl (zv_tl hst) hle hL ⟨by omega, by omega, fun t ht => (by cases ht), fun q9 => by cases q9⟩ (fun _ _ _ q9 => by cases q9; rfl) (Or.inl hK1) hP1 hD1 hS1
  · refine va_newa (D := D) (atype := .long) (ty := .long) (a0 := (n.toNat, .inr (.inl (fun _ => 0)))) hx hb (hts _ zW_arrj) rfl wK wP wD wS hA (fun cA => rfl) (zi_neg0 hni n0) (zi_clamp hni) (by show n.toNat * 8 ≤ _; omega) hc1 hc2 hd (fun q1 cA H1 hK1 hP1 hD1 hS1 => ?_)
    exact zmade (x := .inl (1, n.toNat, [])) (cA := cA) (ty := .long) kk hw ha hl (zv_tl hst) hle hL ⟨by omega, by omega, fun t ht => (by cases ht), fun q9 => by cases q9⟩ (fun _ _ _ q9 => by cases q9; rfl) (Or.inl hK1) hP1 hD1 hS1
theorem zs_anewarray (C0 : zCtx p s m args c cc nL own A ea X) (hK : zHyp p l e R s m args below meth c Q D as0 ea A nL L0 K r) (hR3 : r.2.1.length - L0.length ≤ R.cells) (hR4 : zslots r.2.1 - zslots L0 ≤ R.slots) {k : Nat} (ht : Jvm.Cond.classLink own k RX7 ∈ lw_tbl) (hd : decode cc pc = .ok (.anewarray k, 3)) (h : (zI1 st fun n q => znwa L σ 2 n fun h => K (pc + 3) ls (.inl (some L.length) :: q) h) = some r) : zG p l e R s m args below meth c Q D as0 ea A nL L0 pc ls st (L, σ) := by
  obtain ⟨hx, hb, hml, hown, hts, hA, hE, hN⟩ := C0
  obtain ⟨n, q, rfl, h9⟩ := zI1_some h
  obtain ⟨hL, n0, n1, hk⟩ := znwa_some h9
  intro as cas tys H locs lsA hw ha hl hst hle
  obtain ⟨wK, wP, wD, wS, wH, wT⟩ := id hw
  have hni : zin n := zv_hd hst
  have hk : K (pc + 3) ls (.inl (some L.length) :: q) (L ++ [.inl (2, n.toNat, List.replicate n.toNat none)], zz σ L.length) = some r := hk
  have kk := hK _ _ _ _ hk
  have hc1 : L.length - L0.length + 1 ≤ R.cells := by have h1 := kk.1.1; have h2 := hle.1; simp at h1; dsimp only at h2; omega
  have hc2 : zslots L - zslots L0 + n.toNat ≤ R.slots := by
    have h1 := kk.1.2
    have h2 : zslots (L ++ [.inl (2, n.toNat, List.replicate n.toNat none)]) = zslots L + n.toNat := zslots_app _ _
    have h3 := hle.2
    dsimp only at h1 h3
    omega
  show W _ _ _ _ _ _ _ _ _ _ _ _ _ _ _ (F0 m pc lsA (Value.int (Int32.ofInt n) :: q.map (zc (zad as ea))))
  refine va_newq (D := D) (C := RX7) hx hb hown (hts _ (zTb_in ht rfl)) hN.2 wK wP wD wS hA (zi_neg0 hni n0) (zi_clamp hni) (by omega) hc1 hc2 hd (fun q1 cA H1 hK1 hP1 hD1 hS1 => ?_)
  have hcl : ∀ ad : Nat → Nat, zcell ad cA (fun _ => 0) (.inl (2, n.toNat, List.replicate n.toNat none)) = .inl (cA, n.toNat, .inr (.inr (.inr (.inr (fun _ => none))))) := by
    intro ad
    show (Sum.inl (cA, n.toNat, Sum.inr (Sum.inr (Sum.inr (Sum.inr _)))) : va_E) = Sum.inl (cA, n.toNat, Sum.inr (Sum.inr (Sum.inr (Sum.inr _))))
    congr 7
    funext j
    simp only [List.getD, List.getElem?_replicate]
    split <;> rfl
  exact zmade (x := .inl (2, n.toNat, List.replicate n.toNat none)) (cA := cA) (ty := .object RX7) kk hw ha hl (zv_tl hst) hle hL ⟨by omega, by omega, fun t ht => (by simp at ht), fun _ => by simp⟩ (fun _ _ _ q9 => by cases q9; rfl) (Or.inl hK1) (by rw [hcl]; exact hP1) (by rw [hcl]; exact hD1) hS1
theorem zs_new (C0 : zCtx p s m args c cc nL own A ea X) (hK : zHyp p l e R s m args below meth c Q D as0 ea A nL L0 K r) (hR3 : r.2.1.length - L0.length ≤ R.cells) (hR4 : zslots r.2.1 - zslots L0 ≤ R.slots) {k a : Nat} (hf : ∃ (C : String) (T : u_T) (N : Nat) (ty : Nat → FieldType), vwCl[a]? = some (C, T, N) ∧ zTys[a]? = some (ty, N) ∧ (∀ k, k < N → parseFieldDescriptor (T k).2.2.1 = some (ty k)) ∧ (∀ k, k < N → defaultValue (ty k) = .int 0 ∧ (ty k = .int ∨ ty k = .boolean) ∨ defaultValue (ty k) = .null ∧ (¬ ty k = .int ∧ ¬ ty k = .boolean)) ∧ Jvm.Cond.classLink own k C ∈ lw_tbl ∧ Jvm.Cond.instantiable C N ∈ lw_tbl ∧ Jvm.Cond.initialized C ∈ lw_tbl) (hd : decode cc pc = .ok (.new k, 3)) (h : (znew L σ a fun h => K (pc + 3) ls (.inl (some L.length) :: st) h) = some r) : zG p l e R s m args below meth c Q D as0 ea A nL L0 pc ls st (L, σ) := by
  obtain ⟨hx, hb, hml, hown, hts, hA, hE, hN⟩ := C0
  obtain ⟨C, T, N, ty, f1, f2, f3, f4, f5, f6, f7⟩ := hf
  unfold znew at h
  rw [f2] at h
  obtain ⟨hL, hk⟩ := zbif_some h
  rw [Nat.blt_eq] at hL
  intro as cas tys H locs lsA hw ha hl hst hle
  obtain ⟨wK, wP, wD, wS, wH, wT⟩ := id hw
  have kk := hK _ _ _ _ hk
  have hc1 : L.length - L0.length + 1 ≤ R.cells := by have h1 := kk.1.1; have h2 := hle.1; simp at h1; dsimp only at h2; omega
  have hc2 : zslots L - zslots L0 + N ≤ R.slots := by
    have h1 := kk.1.2
    have h2 : zslots (L ++ [.inr (a, zfkOf (ty, N))]) = zslots L + (zfkOf (ty, N)).length := zslots_app _ _
    rw [zfk_len] at h2
    have h3 := hle.2
    dsimp only at h1 h2 h3
    omega
  have hfs : ∀ ad : Nat → Nat, (zfkOf (ty, N)).mapIdx (zfv ad (fun _ => 0)) = (List.range N).map (fun k => defaultValue (ty k)) := by
    intro ad
    apply List.ext_getElem?
    intro j
    rw [List.getElem?_mapIdx, zfk_get, List.getElem?_map]
    by_cases hj : j < N
    · rw [if_pos hj, List.getElem?_range hj]
      rcases f4 j hj with ⟨q1, q2 | q2⟩ | ⟨q1, q2, q3⟩
      · simp only [q2, Option.map_some, zfv]; rfl
      · simp only [q2, Option.map_some, zfv]; rfl
      · simp only [Option.map_some, q1]
        congr 1
    · rw [if_neg hj, List.getElem?_eq_none (by simp; omega)]
      rfl
  refine va_new (D := D) (ci := a) (fs := (List.range N).map (fun k => defaultValue (ty k))) hx hb hts (zF_all a C T N f1) ty f3 hown (hts _ (zTb_in f5 rfl)) (hts _ (zTb_in f6 rfl)) (hts _ (zTb_in f7 rfl)) wK wP wD wS hA f1 (fun j hj => ?_) hc1 hc2 hd (fun q1 H1 hP1 hD1 hS1 => ?_)
  · unfold vp_V
    simp [List.getD, hj]
  · have key := zmade (x := .inr (a, zfkOf (ty, N))) (cA := cas 0) (ty := .int) kk hw ha hl hst hle hL ⟨fun t ht => ?_, (C, T, N), f1, by rw [zfk_len]⟩ (fun _ _ _ q9 => by cases q9) (Or.inr ⟨fun _ _ _ q9 => (by cases q9), wK⟩) (q := q1) (H1 := H1) (by show va_P D vwCl (_ ++ [(q1, Sum.inr (a, _))]) H1; rw [hfs]; exact hP1) (by show va_D A (_ ++ [(q1, Sum.inr (a, _))]); rw [hfs]; exact hD1) hS1
    · rw [show zsz (.inr (a, zfkOf (ty, N)) : zS) = N from zfk_len (ty, N)] at key
      exact key
    · unfold zfkOf at ht
      obtain ⟨j, -, hj⟩ := List.mem_map.mp ht
      revert hj
      split <;> intro hj <;> cases hj
theorem zs_init0 (C0 : zCtx p s m args c cc nL own A ea X) (hK : zHyp p l e R s m args below meth c Q D as0 ea A nL L0 K r) (hR1 : 1 ≤ R.frames) (hR2 : 40 ≤ R.locals) {k : Nat} (hf : Jvm.Cond.methodLink own k Lib.objectInit ∈ lw_tbl) (hd : decode cc pc = .ok (.invokespecial k, 3)) (h : (zR1 st fun _ q => bif Nat.ble (zwords q) 8 then K (pc + 3) ls q (L, σ) else none) = some r) : zG p l e R s m args below meth c Q D as0 ea A nL L0 pc ls st (L, σ) := by
  obtain ⟨hx, hb, hml, hown, hts, hA, hE, hN⟩ := C0
  obtain ⟨o, q, rfl, h9⟩ := zR1_some h
  obtain ⟨hw8, hk⟩ := zbif_some h9
  have hw8 := Nat.le_of_ble_eq_true hw8
  intro as cas tys H locs lsA hw ha hl hst hle
  show W _ _ _ _ _ _ _ _ _ _ _ _ _ _ _ (F0 m pc lsA (Value.ref (zad as ea o) :: q.map (zc (zad as ea))))
  refine W.objInit hx hb hown (hts _ (zTb_in hf rfl)) (hts _ zW_oini) (hts _ zW_oinc) rfl (by rw [hml]; exact hl.1) rfl hd hR1 ?_ ?_
  · have := lv_room (m := m) (pc := pc) (ls := lsA) (rest := []) (st := q.map (zc (zad as ea))) (by rw [zwords_eq]; exact hw8)
    have h0 : (F0 m pc lsA (Value.ref (zad as ea o) :: q.map (zc (zad as ea)))).monitorRoom = (F0 m pc lsA []).monitorRoom := rfl
    rw [h0]
    omega
  · exact (hK _ _ _ _ hk).2 as cas tys H locs lsA hw ha hl (zv_tl hst) hle
theorem zs_max (C0 : zCtx p s m args c cc nL own A ea X) (hK : zHyp p l e R s m args below meth c Q D as0 ea A nL L0 K r) (hR1 : 1 ≤ R.frames) (hR2 : 40 ≤ R.locals) (hR3 : r.2.1.length - L0.length ≤ R.cells) (hR4 : zslots r.2.1 - zslots L0 ≤ R.slots) {k : Nat} (hf : Jvm.Cond.methodLink own k Lib.Math.max.name ∈ lw_tbl) (hd : decode cc pc = .ok (.invokestatic k, 3)) (h : (zI2 st fun x y q => bif Nat.ble (zwords q) 8 then K (pc + 3) ls (.inr (.inl (zmax x y)) :: q) (L, σ) else none) = some r) : zG p l e R s m args below meth c Q D as0 ea A nL L0 pc ls st (L, σ) := by
  obtain ⟨hx, hb, hml, hown, hts, hA, hE, hN⟩ := C0
  obtain ⟨x, y, q, rfl, h9⟩ := zI2_some h
  obtain ⟨hw8, hk⟩ := zbif_some h9
  have hw8 := Nat.le_of_ble_eq_true hw8
  intro as cas tys H locs lsA hw ha hl hst hle
  have kk := hK _ _ _ _ hk
  have hxi : zin x := zv_hd (zv_tl hst)
  have hyi : zin y := zv_hd hst
  refine va_mmax hx hb (by rw [hml]; exact hl.1.symm) hown (hts _ (zTb_in hf rfl)) (hts _ zW_maxst) (hts _ zW_imath) (hts _ zW_maxc) hR1 (by rw [zwords_eq]; omega) (by have h1 := kk.1.1; dsimp only at h1 ⊢; omega) (by have h1 := kk.1.2; dsimp only at h1 ⊢; omega) hd ?_
  rw [zi_max hxi hyi]
  exact kk.2 as cas tys H locs lsA hw ha hl (zv_cons (zmax_in hxi hyi) (zv_tl (zv_tl hst))) hle
theorem zs_min (C0 : zCtx p s m args c cc nL own A ea X) (hK : zHyp p l e R s m args below meth c Q D as0 ea A nL L0 K r) (hR1 : 1 ≤ R.frames) (hR2 : 40 ≤ R.locals) (hR3 : r.2.1.length - L0.length ≤ R.cells) (hR4 : zslots r.2.1 - zslots L0 ≤ R.slots) {k : Nat} (hf : Jvm.Cond.methodLink own k Lib.Math.min.name ∈ lw_tbl) (hd : decode cc pc = .ok (.invokestatic k, 3)) (h : (zI2 st fun x y q => bif Nat.ble (zwords q) 8 then K (pc + 3) ls (.inr (.inl (zmin x y)) :: q) (L, σ) else none) = some r) : zG p l e R s m args below meth c Q D as0 ea A nL L0 pc ls st (L, σ) := by
  obtain ⟨hx, hb, hml, hown, hts, hA, hE, hN⟩ := C0
  obtain ⟨x, y, q, rfl, h9⟩ := zI2_some h
  obtain ⟨hw8, hk⟩ := zbif_some h9
  have hw8 := Nat.le_of_ble_eq_true hw8
  intro as cas tys H locs lsA hw ha hl hst hle
  have kk := hK _ _ _ _ hk
  have hxi : zin x := zv_hd (zv_tl hst)
  have hyi : zin y := zv_hd hst
  refine va_mmin hx hb (by rw [hml]; exact hl.1.symm) hown (hts _ (zTb_in hf rfl)) (hts _ zW_minst) (hts _ zW_imath) (hts _ zW_minc) hR1 (by rw [zwords_eq]; omega) (by have h1 := kk.1.1; dsimp only at h1 ⊢; omega) (by have h1 := kk.1.2; dsimp only at h1 ⊢; omega) hd ?_
  rw [zi_min hxi hyi]
  exact kk.2 as cas tys H locs lsA hw ha hl (zv_cons (zmin_in hxi hyi) (zv_tl (zv_tl hst))) hle
theorem zarc_some {L : List zS} {σ : zF} {st : List zV} {k : List zV → zF → Option zR} {r : zR} (h : zarc L σ st k = some r) : ∃ n dp o2 sp o1 q t n1 ts1 n2 ts2, st = .inr (.inl n) :: .inr (.inl dp) :: .inl (some o2) :: .inr (.inl sp) :: .inl (some o1) :: q ∧ L[o1]? = some (.inl (t, n1, ts1)) ∧ L[o2]? = some (.inl (t, n2, ts2)) ∧ t < 2 ∧ 0 ≤ n ∧ 0 ≤ sp ∧ 0 ≤ dp ∧ sp + n ≤ (n1 : Int) ∧ dp + n ≤ (n2 : Int) ∧ k q (zcpy σ o1 sp o2 dp n) = some r := by
  unfold zarc at h
  split at h
  · next n dp o2 sp o1 q =>
    split at h
    · next t1 n1 ts1 t2 n2 ts2 e1 e2 =>
      obtain ⟨h1, h2⟩ := zbif_some h
      rw [Bool.and_eq_true, Nat.blt_eq] at h1
      have : t1 = t2 := Nat.eq_of_beq_eq_true h1.1
      subst this
      obtain ⟨h3, h4⟩ := zite_none h2
      exact ⟨n, dp, o2, sp, o1, q, t1, n1, ts1, n2, ts2, rfl, e1, e2, h1.2, h3.1, h3.2.1, h3.2.2.1, h3.2.2.2.1, h3.2.2.2.2, h4⟩
    · cases h
  · cases h
theorem zcpy_o {σ : zF} {o1 o2 j : Nat} {sp dp n : Int} (h : j ≠ o2) : zcpy σ o1 sp o2 dp n j = σ j := by
  funext i
  unfold zcpy
  rw [if_neg (fun q => h q.1)]
theorem zHok_cpy {L : List zS} {σ : zF} {o1 o2 t n1 n2 : Nat} {ts1 ts2 : List (Option Nat)} {sp dp n : Int} (h : zHok L σ) (h1 : L[o1]? = some (.inl (t, n1, ts1))) (h2 : L[o2]? = some (.inl (t, n2, ts2))) : zHok L (zcpy σ o1 sp o2 dp n) := by
  refine ⟨fun j x hx => ⟨(h.1 j x hx).1, ?_⟩, h.2⟩
  have hj := (h.1 j x hx).2
  by_cases e : j = o2
  · subst e
    rw [h2] at hx
    cases hx
    have ho := (h.1 o1 _ h1).2
    rcases t with _ | _ | t
    all_goals
      intro i
      unfold zcpy
      split
      · exact ho _
      · exact hj _
  · rw [zcpy_o e]
    exact hj
theorem zs_arc (C0 : zCtx p s m args c cc nL own A ea X) (hK : zHyp p l e R s m args below meth c Q D as0 ea A nL L0 K r) (hR1 : 1 ≤ R.frames) (hR2 : 40 ≤ R.locals) {k : Nat} (hf : Jvm.Cond.methodLink own k arraycopyName ∈ lw_tbl) (hd : decode cc pc = .ok (.invokestatic k, 3)) (h : (zarc L σ st fun q σ' => bif Nat.ble (zwords q) 8 then K (pc + 3) ls q (L, σ') else none) = some r) : zG p l e R s m args below meth c Q D as0 ea A nL L0 pc ls st (L, σ) := by
  obtain ⟨hx, hb, hml, hown, hts, hA, hE, hN⟩ := C0
  obtain ⟨n, dp, o2, sp, o1, q, t, n1, ts1, n2, ts2, rfl, hL1, hL2, ht2, c1, c2, c3, c4, c5, h9⟩ := zarc_some h
  obtain ⟨hw8, hk⟩ := zbif_some h9
  have hw8 := Nat.le_of_ble_eq_true hw8
  intro as cas tys H locs lsA hw ha hl hst hle
  obtain ⟨wK, wP, wD, wS, wH, wT⟩ := id hw
  have kk := hK _ _ _ _ hk
  have hni : zin n := zv_hd hst
  have hdi : zin dp := zv_hd (zv_tl hst)
  have hsi : zin sp := zv_hd (zv_tl (zv_tl (zv_tl hst)))
  have hz1 : zad as ea o1 = as o1 := zad_lt wH hL1
  have hz2 : zad as ea o2 = as o2 := zad_lt wH hL2
  have hg1 := zget_some (as := as) (ea := ea) (cas := cas) (σ := σ) hL1
  have hg2 := zget_some (as := as) (ea := ea) (cas := cas) (σ := σ) hL2
  obtain ⟨t1, ht1⟩ := wT o1 t n1 ts1 hL1
  obtain ⟨t2, ht2'⟩ := wT o2 t n2 ts2 hL2
  have hnw : nativeFrameWords "java/lang/System" "arraycopy" 5 + 11 = 18 := by decide +kernel
  show W _ _ _ _ _ _ _ _ _ _ _ _ _ _ _ (F0 m pc lsA (Value.int (Int32.ofInt n) :: Value.int (Int32.ofInt dp) :: Value.ref (zad as ea o2) :: Value.int (Int32.ofInt sp) :: Value.ref (zad as ea o1) :: q.map (zc (zad as ea))))
  rw [hz1, hz2]
  have hrest : ∀ (H1 : Heap) (locs1 : List Loc), va_P D vwCl (zws as ea cas L (zcpy σ o1 sp o2 dp n)) H1 → va_D A (zws as ea cas L (zcpy σ o1 sp o2 dp n)) → va_S A s.heap H1 locs1 → W p l e R s m args below meth c H1 locs1 (L.length - L0.length) (zslots L - zslots L0) Q (F0 m (pc + 3) lsA (q.map (zc (zad as ea)))) := fun H1 locs1 a1 a2 a3 =>
    kk.2 as cas tys H1 locs1 lsA ⟨wK, a1, a2, a3, zHok_cpy wH hL1 hL2, wT⟩ ha hl (zv_tl (zv_tl (zv_tl (zv_tl (zv_tl hst))))) hle
  have hself : L.set o2 (.inl (t, n2, ts2)) = L := zset_self hL2
  rcases t with _ | _ | t
  · refine va_copyi (D := D) (ty := .int) hx hb (by rw [hml]; exact hl.1.symm) hown (hts _ (zTb_in hf rfl)) (hts _ zW_nat) (hts _ zW_arcst) (hts _ zW_isys) wK wP wD wS o1 o2 t1 t2 hg1 hg2 ht1 ht2' rfl (zi_neg0 hsi c2) (zi_neg0 hdi c3) (zi_neg0 hni c1) (by rw [zi_clamp hsi, zi_clamp hni]; omega) (by rw [zi_clamp hdi, zi_clamp hni]; omega) (fun i _ => rfl) hR1 (by rw [zwords_eq, hnw]; omega) hd (fun H1 locs1 hP1 hD1 hS1 => ?_)
    have he : zcell (zad as ea) (cas o2) (zcpy σ o1 sp o2 dp n o2) (.inl (0, n2, ts2)) = .inl (cas o2, n2, .inl (va_cpy (fun j : Nat => Int32.ofInt (σ o1 j)) (fun j : Nat => Int32.ofInt (σ o2 j)) (Int32.ofInt sp).toNatClampNeg (Int32.ofInt dp).toNatClampNeg (Int32.ofInt n).toNatClampNeg)) := by
      show (Sum.inl (cas o2, n2, Sum.inl _) : va_E) = Sum.inl (cas o2, n2, Sum.inl _)
      congr 4
      funext j
      rw [zi_clamp hsi, zi_clamp hdi, zi_clamp hni]
      unfold va_cpy zcpy
      by_cases q9 : dp.toNat ≤ j ∧ j < dp.toNat + n.toNat
      · rw [if_pos q9, if_pos ⟨rfl, by omega, by omega⟩]
        congr 2
        omega
      · rw [if_neg q9, if_neg (fun q8 => q9 (by omega))]
    have hset := zws_set (as := as) (ea := ea) (cas := cas) (σ := σ) (σ' := zcpy σ o1 sp o2 dp n) (s' := .inl (0, n2, ts2)) hL2 (fun j hj => zcpy_o hj) he
    rw [hset, hself] at hP1 hD1
    exact hrest H1 locs1 hP1 hD1 hS1
  · refine va_copyl (D := D) (ty := .long) hx hb (by rw [hml]; exact hl.1.symm) hown (hts _ (zTb_in hf rfl)) (hts _ zW_nat) (hts _ zW_arcst) (hts _ zW_isys) wK wP wD wS o1 o2 t1 t2 hg1 hg2 ht1 ht2' rfl (zi_neg0 hsi c2) (zi_neg0 hdi c3) (zi_neg0 hni c1) (by rw [zi_clamp hsi, zi_clamp hni]; omega) (by rw [zi_clamp hdi, zi_clamp hni]; omega) (fun i _ => rfl) hR1 (by rw [zwords_eq, hnw]; omega) hd (fun H1 locs1 hP1 hD1 hS1 => ?_)
    have he : zcell (zad as ea) (cas o2) (zcpy σ o1 sp o2 dp n o2) (.inl (1, n2, ts2)) = .inl (cas o2, n2, .inr (.inl (va_cpy (fun j : Nat => Int64.ofInt (σ o1 j)) (fun j : Nat => Int64.ofInt (σ o2 j)) (Int32.ofInt sp).toNatClampNeg (Int32.ofInt dp).toNatClampNeg (Int32.ofInt n).toNatClampNeg))) := by
      show (Sum.inl (cas o2, n2, Sum.inr (Sum.inl _)) : va_E) = Sum.inl (cas o2, n2, Sum.inr (Sum.inl _))
      congr 5
      funext j
      rw [zi_clamp hsi, zi_clamp hdi, zi_clamp hni]
      unfold va_cpy zcpy
      by_cases q9 : dp.toNat ≤ j ∧ j < dp.toNat + n.toNat
      · rw [if_pos q9, if_pos ⟨rfl, by omega, by omega⟩]
        congr 2
        omega
      · rw [if_neg q9, if_neg (fun q8 => q9 (by omega))]
    have hset := zws_set (as := as) (ea := ea) (cas := cas) (σ := σ) (σ' := zcpy σ o1 sp o2 dp n) (s' := .inl (1, n2, ts2)) hL2 (fun j hj => zcpy_o hj) he
    rw [hset, hself] at hP1 hD1
    exact hrest H1 locs1 hP1 hD1 hS1
  · omega
end
end
section
/-! calls: a run of the small machine is a contract -/
def zroom (d mc ms : Nat) : Room := { frames := d, cells := mc, slots := ms, locals := 40 * d }
def zPc (D : va_G) (as ea : Nat → Nat) (cas : Nat → ClassId) (tys : List (ClassId × FieldType)) (L : List zS) (σ : zF) (X : zX) (vs : List zV) (sz : Nat) : Array Value → State → Prop :=
  va_Pc (vs.map (zc (zad as ea))) (fun U => U.heap.size = sz ∧ va_P D vwCl (zws as ea cas L σ) U.heap ∧ va_K D vwCl tys U ∧ va_D (fun _ => True) (zws as ea cas L σ) ∧ zExt ea X (va_A (zws as ea cas L σ) sz) U ∧ zNs U)
abbrev zS3 : Type := (Nat → Nat) × (Nat → ClassId) × List (ClassId × FieldType)
def zPost (as : Nat → Nat) (L L' : List zS) (σ' : zF) (v : Option zV) (u : zS3) : Prop := (∀ k, k < L.length → u.1 k = as k) ∧ zHok L' σ' ∧ (∀ w, v = some w → zvok L'.length w) ∧ ∀ (k tag n : Nat) (ts : List (Option Nat)), L'[k]? = some (.inl (tag, n, ts)) → ∃ t0 : Nat, u.2.2[t0]? = some (u.2.1 k, zty tag)
def zB (D : va_G) (ea : Nat → Nat) (L' : List zS) (σ' : zF) (A : Nat → Prop) (u : zS3) (t : State) : Prop := va_P D vwCl (zws u.1 ea u.2.1 L' σ') t.heap ∧ va_K D vwCl u.2.2 t ∧ va_D A (zws u.1 ea u.2.1 L' σ')
def zQ (D : va_G) (as ea : Nat → Nat) (L L' : List zS) (σ' : zF) (v : Option zV) (A : Nat → Prop) : Array Value → State → Outcome → State → Prop := match v with
  | none => va_Qv (zPost as L L' σ' none) (zB D ea L' σ' A) A
  | some (.inr (.inl i)) => va_Qi (fun r u => r = Int32.ofInt i ∧ zPost as L L' σ' (some (.inr (.inl i))) u) (zB D ea L' σ' A) A
  | some (.inr (.inr i)) => va_Ql (fun r u => r = Int64.ofInt i ∧ zPost as L L' σ' (some (.inr (.inr i))) u) (zB D ea L' σ' A) A
  | some (.inl (some k)) => va_Qr (zPost as L L' σ' (some (.inl (some k)))) (fun u a t => a = zad u.1 ea k ∧ zB D ea L' σ' A u t) A
  | some (.inl none) => fun _ _ _ _ => False
def zMet (l : Launch) (D : va_G) (ea : Nat → Nat) (X : zX) (d : Nat) (y : MethodName) (cc : ByteArray) (n : Nat) (rt : Option FieldType) (as : Nat → Nat) (cas : Nat → ClassId) (tys : List (ClassId × FieldType)) (L : List zS) (σ : zF) (vs : List zV) (sz : Nat) (v : Option zV) (L' : List zS) (σ' : zF) : Prop :=
  Met l y (Cond.code y cc n rt :: zTb) (zroom d (L'.length - L.length) (zslots L' - zslots L)) (zPc D as ea cas tys L σ X vs sz) (zQ D as ea L L' σ' v (va_A (zws as ea cas L σ) sz)) (L'.length - L.length) (zslots L' - zslots L) (va_A (zws as ea cas L σ) sz)
def zCallOK (l : Launch) (D : va_G) (ea : Nat → Nat) (X : zX) (MT : List zMt) (d : Nat) (calls : zCalls) : Prop := ∀ (id : Nat) (y : MethodName) (cc : ByteArray) (n : Nat) (rt : Option FieldType) (C : List (Nat × zI)) (cuts : zCut), MT[id]? = some (y, cc, n, rt, C, cuts) → n ≤ 21 ∧ Cond.code y cc n rt ∈ lw_tbl ∧
  ∀ (vs : List zV) (L : List zS) (σ : zF) (v : Option zV) (L' : List zS) (σ' : zF), calls id vs (L, σ) = some (v, (L', σ')) → zHok L σ → (∀ w ∈ vs, zvok L.length w) → ∀ (as : Nat → Nat) (cas : Nat → ClassId) (tys : List (ClassId × FieldType)) (sz : Nat), (∀ (k tag n : Nat) (ts : List (Option Nat)), L[k]? = some (.inl (tag, n, ts)) → ∃ t0 : Nat, tys[t0]? = some (cas k, zty tag)) → zMet l D ea X d y cc n rt as cas tys L σ vs sz v L' σ'
theorem zExt.moved {ea : Nat → Nat} {X : zX} {A : Nat → Prop} {u U : State} (hvm : u.vm.Alike U.vm) (hh : U.heap = u.heap) (h : zExt ea X A u) : zExt ea X A U := by
  refine ⟨fun j nm hj => ?_, fun j n f hj => ?_⟩
  · rw [hh]; exact va_Z.moved hvm (h.1 j nm hj)
  · rw [hh]; exact ⟨va_T.moved hvm (h.2 j n f hj).1, (h.2 j n f hj).2⟩
theorem zPc_blind {D : va_G} {as ea : Nat → Nat} {cas : Nat → ClassId} {tys : List (ClassId × FieldType)} {L : List zS} {σ : zF} {X : zX} {vs : List zV} {sz : Nat} : FrameBlind (zPc D as ea cas tys L σ X vs sz) := by
  intro a U g mk q
  obtain ⟨q0, q1, qP, qK, qD, qE, qN⟩ := q
  exact ⟨q0, q1, qP, va_K.moved (u := U) (U := U.calling g mk a) (Vm.Alike.refl U.vm) qK, qD, zExt.moved (u := U) (U := U.calling g mk a) (Vm.Alike.refl U.vm) rfl qE, fun w hw => va_Nw.same rfl (rfl : U.vm = (U.calling g mk a).vm) (qN.1 w hw), va_AO.moved (u := U) (U := U.calling g mk a) (Vm.Alike.refl U.vm) qN.2⟩
section
variable {p : Program} {l : Launch} {e : Env} {R : Room} {s : State} {m : MethodId} {args : Array Value} {below : List Frame} {meth : Method} {c : Code} {Q : State → Prop} {D : va_G} {as0 ea : Nat → Nat} {A : Nat → Prop} {nL : Nat} {L0 : List zS} {cc : ByteArray} {own nm : String} {X Xc : zX} {r : zR} {K : zK} {pc : Nat} {ls : zL} {st : List zV} {L : List zS} {σ : zF} {ret : Option FieldType}
theorem zAimp {as : Nat → Nat} {cas : Nat → ClassId} {tys : List (ClassId × FieldType)} {H : Heap} {locs : List Loc} (hA : ∀ q : Nat, s.heap.size ≤ q → A q) (hw : zWd D as ea cas tys A s H locs L σ) : ∀ q, va_A (zws as ea cas L σ) H.size q → A q := by
  obtain ⟨wK, wP, wD, wS, wH, wT⟩ := hw
  rintro q (⟨k, e, hk⟩ | h)
  · exact wD.2 k _ hk
  · exact hA q (Nat.le_trans wS.1 h)
/-- the callee's start, as the caller gives it -/
theorem zgive {as : Nat → Nat} {cas : Nat → ClassId} {tys : List (ClassId × FieldType)} {H : Heap} {locs : List Loc} (C0 : zCtx p s m args c cc nL own A ea X) (hX : ∀ (j : Nat) (q : Nat × (Nat → Int)), Xc[j]? = some q → X[j]? = some q) (hw : zWd D as ea cas tys A s H locs L σ) (vs : List zV) : ∀ U : State, U.heap = H → s.WarmedH U.vm → zPc D as ea cas tys L σ Xc vs H.size (vs.map (zc (zad as ea))).toArray U := by
  obtain ⟨hx, hb, hml, hown, hts, hA, hE, hN⟩ := C0
  have hAi := zAimp hA hw
  obtain ⟨wK, wP, wD, wS, wH, wT⟩ := hw
  intro U hU hW
  refine ⟨rfl, by rw [hU], by rw [hU]; exact wP, va_K.moved hW.alike wK, ⟨wD.1, fun _ _ _ => trivial⟩, ⟨fun j nm hj => ?_, fun j n f hj => ?_⟩, fun w hw => va_Nw.warmM hW (hN.1 w hw), va_AO.moved hW.alike hN.2⟩
  · rw [hU]
    exact va_Z.moved hW.alike (va_Z.narrow (va_Z.kept (hE.1 j nm hj) wS.2.1) hAi)
  · rw [hU]
    obtain ⟨h1, h2⟩ := hE.2 j n f (hX j _ hj)
    exact ⟨va_T.moved hW.alike (va_T.narrow (va_T.kept h1 wS.2.1) hAi), h2⟩
/-- behind the call -/
theorem zback {as : Nat → Nat} {cas : Nat → ClassId} {tys : List (ClassId × FieldType)} {H : Heap} {locs : List Loc} {lsA : Array Slot} {v : Option zV} {L' : List zS} {σ' : zF} {st0 : List Value} {rest : List zV} {a : Array Value}
    (C0 : zCtx p s m args c cc nL own A ea X) (hw : zWd D as ea cas tys A s H locs L σ) (ha : ∀ k, k < L0.length → as k = as0 k) (hl : zLc (zad as ea) L.length lsA nL ls) (hst : ∀ v ∈ rest, zvok L.length v) (hle : zle L0 L) (hle2 : zle L L')
    (hr : va_Run p l e R s m args below meth c H locs (L.length - L0.length) (zslots L - zslots L0) (L'.length - L.length) (zslots L' - zslots L) (F0 m pc lsA st0) (rest.map (zc (zad as ea))) (zQ D as ea L L' σ' v (va_A (zws as ea cas L σ) H.size) a) (va_A (zws as ea cas L σ) H.size))
    (kk : zG p l e R s m args below meth c Q D as0 ea A nL L0 (pc + 3) ls (v.toList ++ rest) (L', σ')) :
    W p l e R s m args below meth c H locs (L.length - L0.length) (zslots L - zslots L0) Q (F0 m pc lsA st0) := by
  have hA := C0.2.2.2.2.2.1
  have hAi := zAimp hA hw
  obtain ⟨wK, wP, wD, wS, wH, wT⟩ := id hw
  have hc : L.length - L0.length + (L'.length - L.length) = L'.length - L0.length := by have h1 := hle.1; have h2 := hle2.1; omega
  have hs : zslots L - zslots L0 + (zslots L' - zslots L) = zslots L' - zslots L0 := by have h1 := hle.2; have h2 := hle2.2; omega
  -- the world behind
  have key : ∀ (u : zS3) (t : State) (H1 : Heap) (locs1 : List Loc), t.heap = H1 → s.vm.Alike t.vm → zPost as L L' σ' v u → zB D ea L' σ' (va_A (zws as ea cas L σ) H.size) u t → va_S A s.heap H1 locs1 → W p l e R s m args below meth c H1 locs1 (L'.length - L0.length) (zslots L' - zslots L0) Q (F0 m (pc + 3) lsA ((v.toList ++ rest).map (zc (zad u.1 ea)))) ∧ ∀ w ∈ rest, zc (zad u.1 ea) w = zc (zad as ea) w := by
    intro u t H1 locs1 ht hvm hp hB hS1
    obtain ⟨p1, p2, p3, p4⟩ := hp
    obtain ⟨b1, b2, b3⟩ := hB
    rw [ht] at b1
    have hag : ∀ t, t < L.length ∨ 1000 ≤ t → zad u.1 ea t = zad as ea t := by
      intro t ht
      have := wH.2
      unfold zad
      split
      · exact p1 t (by omega)
      · rfl
    refine ⟨kk u.1 u.2.1 u.2.2 H1 locs1 lsA ⟨va_K.moved hvm.symm b2, b1, ⟨b3.1, fun k q hk => hAi _ (b3.2 k q hk)⟩, hS1, p2, p4⟩ (fun k hk => by rw [p1 k (Nat.lt_of_lt_of_le hk hle.1)]; exact ha k hk) ⟨hl.1, hl.2.1, fun j w e => ?_⟩ (fun w hw => ?_) (zle_tr hle hle2), fun w hw => zc_congr (hst w hw) hag⟩
    · obtain ⟨h1, h2⟩ := hl.2.2 j w e
      exact ⟨by rw [h1, zc_congr h2 hag], zvok_mono hle2.1 h2⟩
    · rcases List.mem_append.mp hw with h | h
      · cases v with
        | none => cases h
        | some x =>
          have : w = x := by simpa using h
          subst this
          exact p3 w rfl
      · exact zvok_mono hle2.1 (hst w h)
  have hmap : ∀ (ad : Nat → Nat), (∀ w ∈ rest, zc ad w = zc (zad as ea) w) → rest.map (zc ad) = rest.map (zc (zad as ea)) := fun ad h => List.map_congr_left h
  rcases v with _ | (_ | k) | i | i
  · refine va_callv (a := a) hr wS (fun q _ h => hAi q h) hAi (fun u t H1 locs1 ht hvm hp hB _ _ hS1 => ?_)
    obtain ⟨k1, k2⟩ := key u t H1 locs1 ht hvm hp hB hS1
    rw [hc, hs]
    rw [List.map_append, hmap _ k2] at k1
    exact k1
  · intro T hT X
    obtain ⟨_, _, _, _, _, _, _, _, _, _, q, _⟩ := hr T hT X
    exact q.elim
  · refine va_callr (a := a) hr wS (fun q _ h => hAi q h) hAi (fun u ra t H1 locs1 ht hvm hp hB _ _ hS1 => ?_)
    obtain ⟨k1, k2⟩ := key u t H1 locs1 ht hvm hp hB.2 hS1
    rw [hc, hs, hB.1]
    rw [List.map_append, hmap _ k2] at k1
    exact k1
  · refine va_calli (a := a) hr wS (fun q _ h => hAi q h) hAi (fun ri u t H1 locs1 ht hvm hp hB _ _ hS1 => ?_)
    obtain ⟨k1, k2⟩ := key u t H1 locs1 ht hvm hp.2 hB hS1
    rw [hc, hs, hp.1]
    rw [List.map_append, hmap _ k2] at k1
    exact k1
  · refine va_calll (a := a) hr wS (fun q _ h => hAi q h) hAi (fun ri u t H1 locs1 ht hvm hp hB _ _ hS1 => ?_)
    obtain ⟨k1, k2⟩ := key u t H1 locs1 ht hvm hp.2 hB hS1
    rw [hc, hs, hp.1]
    rw [List.map_append, hmap _ k2] at k1
    exact k1
end
end
section
/-! every run of the small machine is a run of the Java machine -/
section
variable {p : Program} {l : Launch} {e : Env} {R : Room} {s : State} {m : MethodId} {args : Array Value} {below : List Frame} {meth : Method} {c : Code} {Q : State → Prop} {D : va_G} {as0 ea : Nat → Nat} {A : Nat → Prop} {nL : Nat} {L0 : List zS} {cc : ByteArray} {own nm : String} {X Xc : zX} {r : zR} {K : zK} {pc : Nat} {ls : zL} {st : List zV} {L : List zS} {σ : zF} {ret : Option FieldType} {MT : List zMt} {d : Nat} {calls : zCalls}
theorem zpay {y : MethodName} {cy : ByteArray} {n : Nat} {rt : Option FieldType} (hts : ∀ w ∈ zTb, w.before args s = true) (hc : Cond.code y cy n rt ∈ lw_tbl) : ∀ w ∈ (Cond.code y cy n rt :: zTb), ∀ (a' : Array Value) (U : State), s.WarmedH U.vm → w.before a' U = true := by
  refine pay_in hts (fun w hw => ?_)
  rcases List.mem_cons.mp hw with rfl | h
  · exact ⟨zTb_in hc rfl, good_of_word rfl⟩
  · exact ⟨h, good_of_word (List.mem_filter.mp h).2⟩
theorem zarity {y : MethodName} {b : Nat} (h : zparOK y b) : ∀ sig, parseMethodDescriptor y.desc = some sig → b = sig.parameters.length := by
  intro sig hs
  have h2 := h.2.2
  rw [hs] at h2
  exact (Option.some.inj h2).symm
theorem zstk {vs q : List zV} {b : Nat} {ad : Nat → Nat} (h : ztk b [] st = some (vs, q)) : st.map (zc ad) = (vs.map (zc ad)).reverse ++ q.map (zc ad) ∧ (vs.map (zc ad)).length = b := by
  obtain ⟨h1, h2⟩ := ztk_some b [] st vs q h
  rw [List.reverse_nil, List.nil_append] at h1
  rw [← h1, List.map_append, List.map_reverse]
  exact ⟨rfl, by rw [List.length_map, h2]; simp⟩
theorem zstk_ok {vs q : List zV} {b n : Nat} (h : ztk b [] st = some (vs, q)) (hst : ∀ v ∈ st, zvok n v) : (∀ v ∈ vs, zvok n v) ∧ ∀ v ∈ q, zvok n v := by
  obtain ⟨h1, h2⟩ := ztk_some b [] st vs q h
  rw [List.reverse_nil, List.nil_append] at h1
  rw [← h1] at hst
  exact ⟨fun v hv => hst v (List.mem_append_left _ (List.mem_reverse.mpr hv)), fun v hv => hst v (List.mem_append_right _ hv)⟩
theorem zs_virtual (C0 : zCtx p s m args c cc nL own A ea X) (hX : ∀ (j : Nat) (q : Nat × (Nat → Int)), Xc[j]? = some q → X[j]? = some q) (hK : zHyp p l e R s m args below meth c Q D as0 ea A nL L0 K r) (hC : zCallOK l D ea Xc MT d calls) (hm : zCm calls) (hR1 : d + 1 ≤ R.frames) (hR2 : 40 * (d + 1) ≤ R.locals) (hR3 : r.2.1.length - L0.length ≤ R.cells) (hR4 : zslots r.2.1 - zslots L0 ≤ R.slots) {k a b c1 d1 : Nat} (hf : zvirOK MT own k a b d1) (hd : decode cc pc = .ok (.invokevirtual k, 3))
    (h : (match ztk b [] st with
      | some (vs, r) => zR1 r fun o r => bif zcls L o d1 && Nat.ble (zwords r) 8 then zC c1 L (calls a (.inl (some o) :: vs) (L, σ)) fun v σ' => K (pc + 3) ls (v ++ r) (L, σ') else none
      | none => none) = some r) : zG p l e R s m args below meth c Q D as0 ea A nL L0 pc ls st (L, σ) := by
  obtain ⟨y, cy, n, rt, Cd, cuts, T, N, f1, f2, f3, f4, f5, f6, f7⟩ := hf
  obtain ⟨hn21, hcode, hC2⟩ := hC a y cy n rt Cd cuts f1
  obtain ⟨hx, hb, hml, hown, hts, hA, hE, hN⟩ := id C0
  rcases htk : ztk b [] st with _ | ⟨vs, q0⟩
  · rw [htk] at h; cases h
  rw [htk] at h
  obtain ⟨o, q, rfl, h9⟩ := zR1_some h
  obtain ⟨h8, h7⟩ := zbif_some h9
  rw [Bool.and_eq_true] at h8
  obtain ⟨fs, hLo⟩ := zcls_some h8.1
  have hw8 := Nat.le_of_ble_eq_true h8.2
  obtain ⟨v, σ', hcall, hk, hnn⟩ := zC_some h7
  intro as cas tys H locs lsA hw ha hl hst hle
  obtain ⟨hvs, hq0⟩ := zstk_ok htk hst
  obtain ⟨hs1, hs2⟩ := zstk (ad := zad as ea) htk
  obtain ⟨wK, wP, wD, wS, wH, wT⟩ := id hw
  have hz : zad as ea o = as o := zad_lt wH hLo
  have hg := zget_some (as := as) (ea := ea) (cas := cas) (σ := σ) hLo
  have hM := hC2 (.inl (some o) :: vs) L σ v L σ' hcall wH (zv_cons (zv_hd hq0) hvs) as cas tys H.size wT
  have kk := hK _ _ _ _ hk
  have hfit : (L.length - L0.length + (L.length - L.length) ≤ R.cells) ∧ (zslots L - zslots L0 + (zslots L - zslots L) ≤ R.slots) := by
    have h1 := kk.1.1
    have h2 := kk.1.2
    dsimp only at h1 h2
    exact ⟨by omega, by omega⟩
  have hpre : PreV s H y.cls (zad as ea o) (zPc D as ea cas tys L σ Xc (.inl (some o) :: vs) H.size) (vs.map (zc (zad as ea))) :=
    ⟨zPc_blind, by rw [hz]; exact va_recv (q := (y.cls, T, N)) wK wP f2 hg, fun U hU hW => zgive C0 hX hw (.inl (some o) :: vs) U hU hW⟩
  have hroom := lv_room (m := m) (pc := pc) (ls := lsA) (rest := []) (st := q.map (zc (zad as ea))) (by rw [zwords_eq]; exact hw8)
  have hrm : (zroom d (L.length - L.length) (zslots L - zslots L)).frames + 1 ≤ R.frames ∧ 8 + (n + 11) + (zroom d (L.length - L.length) (zslots L - zslots L)).locals ≤ R.locals := ⟨hR1, by show 8 + (n + 11) + 40 * d ≤ _; omega⟩
  have hrun : va_Run p l e R s m args below meth c H locs (L.length - L0.length) (zslots L - zslots L0) (L.length - L.length) (zslots L - zslots L) (F0 m pc lsA (st.map (zc (zad as ea)))) (q.map (zc (zad as ea))) (zQ D as ea L L σ' v (va_A (zws as ea cas L σ) H.size) ((.inl (some o) :: vs).map (zc (zad as ea))).toArray) (va_A (zws as ea cas L σ) H.size) := by
    rcases f4 with f4 | ⟨host, f4⟩
    · exact va_runV (C := y.cls) (bytes := cy) (maxL := n) (ret := rt) ⟨hx, hb, hml, hown, hts⟩ hM ⟨⟨rfl, rfl, hrm.1, hrm.2, zpay hts hcode, List.mem_cons_self, hts _ (zTb_in hcode rfl), hts _ (zTb_in f7 rfl), ⟨f3.1, f3.2.1⟩, zarity f3, hts _ (zTb_in f4 rfl)⟩, hts _ (zTb_in f5 rfl), hts _ (zTb_in f6 rfl)⟩ hpre rfl hs2 hl.1 hs1 hroom hd hfit
    · exact va_runVN (C := y.cls) (bytes := cy) (maxL := n) (ret := rt) ⟨hx, hb, hml, hown, hts⟩ hM ⟨⟨⟨rfl, rfl, hrm.1, hrm.2, zpay hts hcode, List.mem_cons_self⟩, hts _ (zTb_in hcode rfl), hts _ (zTb_in f7 rfl), ⟨f3.1, f3.2.1⟩, zarity f3, va_Nw.use rfl (hN.1 _ f4)⟩, hts _ (zTb_in f5 rfl), hts _ (zTb_in f6 rfl)⟩ hpre rfl hs2 hl.1 hs1 hroom hd hfit
  exact zback C0 hw ha hl (zv_tl hq0) hle (zle_rf L) hrun kk.2
theorem zs_static (C0 : zCtx p s m args c cc nL own A ea X) (hX : ∀ (j : Nat) (q : Nat × (Nat → Int)), Xc[j]? = some q → X[j]? = some q) (hK : zHyp p l e R s m args below meth c Q D as0 ea A nL L0 K r) (hC : zCallOK l D ea Xc MT d calls) (hm : zCm calls) (hR1 : d + 1 ≤ R.frames) (hR2 : 40 * (d + 1) ≤ R.locals) (hR3 : r.2.1.length - L0.length ≤ R.cells) (hR4 : zslots r.2.1 - zslots L0 ≤ R.slots) {k a b c1 : Nat} (hf : zsttOK MT own k a b) (hd : decode cc pc = .ok (.invokestatic k, 3))
    (h : (match ztk b [] st with
      | some (vs, r) => bif Nat.ble (zwords r) 8 then zC c1 L (calls a vs (L, σ)) fun v σ' => K (pc + 3) ls (v ++ r) (L, σ') else none
      | none => none) = some r) : zG p l e R s m args below meth c Q D as0 ea A nL L0 pc ls st (L, σ) := by
  obtain ⟨y, cy, n, rt, Cd, cuts, f1, f3, f4, f5, f7⟩ := hf
  obtain ⟨hn21, hcode, hC2⟩ := hC a y cy n rt Cd cuts f1
  obtain ⟨hx, hb, hml, hown, hts, hA, hE, hN⟩ := id C0
  rcases htk : ztk b [] st with _ | ⟨vs, q⟩
  · rw [htk] at h; cases h
  rw [htk] at h
  obtain ⟨h8, h7⟩ := zbif_some h
  have hw8 := Nat.le_of_ble_eq_true h8
  obtain ⟨v, σ', hcall, hk, hnn⟩ := zC_some h7
  intro as cas tys H locs lsA hw ha hl hst hle
  obtain ⟨hvs, hq0⟩ := zstk_ok htk hst
  obtain ⟨hs1, hs2⟩ := zstk (ad := zad as ea) htk
  obtain ⟨wK, wP, wD, wS, wH, wT⟩ := id hw
  have hM := hC2 vs L σ v L σ' hcall wH hvs as cas tys H.size wT
  have kk := hK _ _ _ _ hk
  have hfit : (L.length - L0.length + (L.length - L.length) ≤ R.cells) ∧ (zslots L - zslots L0 + (zslots L - zslots L) ≤ R.slots) := by
    have h1 := kk.1.1
    have h2 := kk.1.2
    dsimp only at h1 h2
    exact ⟨by omega, by omega⟩
  have hpre : PreS s H (zPc D as ea cas tys L σ Xc vs H.size) (vs.map (zc (zad as ea))) :=
    ⟨zPc_blind, fun U hU hW => zgive C0 hX hw vs U hU hW⟩
  have hroom := lv_room (m := m) (pc := pc) (ls := lsA) (rest := []) (st := q.map (zc (zad as ea))) (by rw [zwords_eq]; exact hw8)
  have hrm : (zroom d (L.length - L.length) (zslots L - zslots L)).frames + 1 ≤ R.frames ∧ 8 + (n + 11) + (zroom d (L.length - L.length) (zslots L - zslots L)).locals ≤ R.locals := ⟨hR1, by show 8 + (n + 11) + 40 * d ≤ _; omega⟩
  have hrun : va_Run p l e R s m args below meth c H locs (L.length - L0.length) (zslots L - zslots L0) (L.length - L.length) (zslots L - zslots L) (F0 m pc lsA (st.map (zc (zad as ea)))) (q.map (zc (zad as ea))) (zQ D as ea L L σ' v (va_A (zws as ea cas L σ) H.size) (vs.map (zc (zad as ea))).toArray) (va_A (zws as ea cas L σ) H.size) := by
    rcases f4 with f4 | ⟨host, f4⟩
    · exact va_runS (bytes := cy) (maxL := n) (ret := rt) ⟨hx, hb, hml, hown, hts⟩ hM ⟨⟨rfl, rfl, hrm.1, hrm.2, zpay hts hcode, List.mem_cons_self, hts _ (zTb_in hcode rfl), hts _ (zTb_in f7 rfl), ⟨f3.1, f3.2.1⟩, zarity f3, hts _ (zTb_in f4 rfl)⟩, hts _ (zTb_in f5 rfl)⟩ hpre rfl hs2 hl.1 hs1 hroom hd hfit
    · exact va_runSN (bytes := cy) (maxL := n) (ret := rt) ⟨hx, hb, hml, hown, hts⟩ hM ⟨⟨⟨rfl, rfl, hrm.1, hrm.2, zpay hts hcode, List.mem_cons_self⟩, hts _ (zTb_in hcode rfl), hts _ (zTb_in f7 rfl), ⟨f3.1, f3.2.1⟩, zarity f3, va_Nw.use rfl (hN.1 _ f4)⟩, hts _ (zTb_in f5 rfl), trivial⟩ hpre rfl hs2 hl.1 hs1 hroom hd hfit
  exact zback C0 hw ha hl hq0 hle (zle_rf L) hrun kk.2
theorem zs_special (C0 : zCtx p s m args c cc nL own A ea X) (hX : ∀ (j : Nat) (q : Nat × (Nat → Int)), Xc[j]? = some q → X[j]? = some q) (hK : zHyp p l e R s m args below meth c Q D as0 ea A nL L0 K r) (hC : zCallOK l D ea Xc MT d calls) (hm : zCm calls) (hR1 : d + 1 ≤ R.frames) (hR2 : 40 * (d + 1) ≤ R.locals) (hR3 : r.2.1.length - L0.length ≤ R.cells) (hR4 : zslots r.2.1 - zslots L0 ≤ R.slots) {k a b d1 : Nat} (hf : ziniOK MT own k a b d1) (hd : decode cc pc = .ok (.invokespecial k, 3))
    (h : (match ztk b [] st with
      | some (vs, r) => zR1 r fun o r => bif zcls L o d1 && Nat.ble (zwords r) 8 then zCN (calls a (.inl (some o) :: vs) (L, σ)) fun h => K (pc + 3) ls r h else none
      | none => none) = some r) : zG p l e R s m args below meth c Q D as0 ea A nL L0 pc ls st (L, σ) := by
  obtain ⟨y, cy, n, Cd, cuts, T, N, f1, f2, f3, f4, f5, f7, f8⟩ := hf
  obtain ⟨hn21, hcode, hC2⟩ := hC a y cy n none Cd cuts f1
  obtain ⟨hx, hb, hml, hown, hts, hA, hE, hN⟩ := id C0
  rcases htk : ztk b [] st with _ | ⟨vs, q0⟩
  · rw [htk] at h; cases h
  rw [htk] at h
  obtain ⟨o, q, rfl, h9⟩ := zR1_some h
  obtain ⟨h8, h7⟩ := zbif_some h9
  rw [Bool.and_eq_true] at h8
  have hw8 := Nat.le_of_ble_eq_true h8.2
  obtain ⟨⟨L', σ'⟩, hcall, hk⟩ := zCN_some h7
  intro as cas tys H locs lsA hw ha hl hst hle
  obtain ⟨hvs, hq0⟩ := zstk_ok htk hst
  obtain ⟨hs1, hs2⟩ := zstk (ad := zad as ea) htk
  obtain ⟨wK, wP, wD, wS, wH, wT⟩ := id hw
  have hM := hC2 (.inl (some o) :: vs) L σ none L' σ' hcall wH (zv_cons (zv_hd hq0) hvs) as cas tys H.size wT
  have kk := hK _ _ _ _ hk
  have hle2 : zle L L' := hm _ _ _ _ hcall
  have hfit : (L.length - L0.length + (L'.length - L.length) ≤ R.cells) ∧ (zslots L - zslots L0 + (zslots L' - zslots L) ≤ R.slots) := by
    have h1 := kk.1.1
    have h2 := kk.1.2
    have h3 := hle.1
    have h4 := hle.2
    have h5 := hle2.1
    have h6 := hle2.2
    dsimp only at h1 h2 h3 h4
    exact ⟨by omega, by omega⟩
  have hpre : PreS s H (zPc D as ea cas tys L σ Xc (.inl (some o) :: vs) H.size) (.ref (zad as ea o) :: vs.map (zc (zad as ea))) :=
    ⟨zPc_blind, fun U hU hW => zgive C0 hX hw (.inl (some o) :: vs) U hU hW⟩
  have hroom := lv_room (m := m) (pc := pc) (ls := lsA) (rest := []) (st := q.map (zc (zad as ea))) (by rw [zwords_eq]; exact hw8)
  have hrm : (zroom d (L'.length - L.length) (zslots L' - zslots L)).frames + 1 ≤ R.frames ∧ 8 + (n + 11) + (zroom d (L'.length - L.length) (zslots L' - zslots L)).locals ≤ R.locals := ⟨hR1, by show 8 + (n + 11) + 40 * d ≤ _; omega⟩
  have hrun : va_Run p l e R s m args below meth c H locs (L.length - L0.length) (zslots L - zslots L0) (L'.length - L.length) (zslots L' - zslots L) (F0 m pc lsA (st.map (zc (zad as ea)))) (q.map (zc (zad as ea))) (zQ D as ea L L' σ' none (va_A (zws as ea cas L σ) H.size) ((.inl (some o) :: vs).map (zc (zad as ea))).toArray) (va_A (zws as ea cas L σ) H.size) := by
    rcases f4 with f4 | ⟨host, f4⟩
    · exact va_runI (bytes := cy) (maxL := n) ⟨hx, hb, hml, hown, hts⟩ hM ⟨⟨rfl, rfl, hrm.1, hrm.2, zpay hts hcode, List.mem_cons_self, hts _ (zTb_in hcode rfl), hts _ (zTb_in f7 rfl), ⟨f3.1, f3.2.1⟩, zarity f3, hts _ (zTb_in f4 rfl)⟩, f8, hts _ (zTb_in f5 rfl)⟩ hpre rfl hs2 hl.1 hs1 hroom hd hfit
    · exact va_runIN (bytes := cy) (maxL := n) ⟨hx, hb, hml, hown, hts⟩ hM ⟨⟨⟨rfl, rfl, hrm.1, hrm.2, zpay hts hcode, List.mem_cons_self⟩, hts _ (zTb_in hcode rfl), hts _ (zTb_in f7 rfl), ⟨f3.1, f3.2.1⟩, zarity f3, va_Nw.use rfl (hN.1 _ f4)⟩, f8, hts _ (zTb_in f5 rfl)⟩ hpre rfl hs2 hl.1 hs1 hroom hd hfit
  exact zback C0 hw ha hl (zv_tl hq0) hle hle2 hrun kk.2
set_option maxHeartbeats 4000000 in
theorem zgo_sound (C0 : zCtx p s m args c cc nL own A ea X) (hin : nm = "<init>" → meth.name = "<init>") (hX : ∀ (j : Nat) (q : Nat × (Nat → Int)), Xc[j]? = some q → X[j]? = some q) (hK : zHyp p l e R s m args below meth c Q D as0 ea A nL L0 K r) (hret : zRet p l e R s m args below meth c Q D as0 ea A cc ret L0 r) (hC : zCallOK l D ea Xc MT d calls) (hm : zCm calls) (hR1 : d + 1 ≤ R.frames) (hR2 : 40 * (d + 1) ≤ R.locals) (hR3 : r.2.1.length - L0.length ≤ R.cells) (hR4 : zslots r.2.1 - zslots L0 ≤ R.slots)
    (i : Instr) (len a b c1 d1 : Nat) (tab : List (Int × Nat)) (hd : decode cc pc = .ok (i, len)) (hlk : zlk MT own nm nL ret pc (i, len, a, b, c1, d1, tab)) (h : zgo X calls K i len a b c1 d1 tab pc ls st L σ = some r) : zG p l e R s m args below meth c Q D as0 ea A nL L0 pc ls st (L, σ) := by
  have g1 : 1 ≤ R.frames := by omega
  have g2 : 40 ≤ R.locals := by omega
  cases i
  case iload => obtain ⟨rfl, rfl⟩ := hlk; exact zs_iload C0 hK hd h
  case iload_n => obtain ⟨q, rfl⟩ := hlk; exact zs_iload_n C0 hK q hd h
  case lload => obtain ⟨rfl, rfl⟩ := hlk; exact zs_lload C0 hK hd h
  case lload_n => obtain ⟨q, rfl⟩ := hlk; exact zs_lload_n C0 hK q hd h
  case aload => obtain ⟨rfl, rfl⟩ := hlk; exact zs_aload C0 hK hd h
  case aload_n => obtain ⟨q, rfl⟩ := hlk; exact zs_aload_n C0 hK q hd h
  case istore => obtain ⟨rfl, rfl, q⟩ := hlk; exact zs_istore C0 hK q hd h
  case istore_n => obtain ⟨q, rfl, q2⟩ := hlk; exact zs_istore_n C0 hK q q2 hd h
  case lstore => obtain ⟨rfl, rfl, q⟩ := hlk; exact zs_lstore C0 hK q hd h
  case lstore_n => obtain ⟨q, rfl, q2⟩ := hlk; exact zs_lstore_n C0 hK q q2 hd h
  case astore => obtain ⟨rfl, rfl, q⟩ := hlk; exact zs_astore C0 hK q hd h
  case astore_n => obtain ⟨q, rfl, q2⟩ := hlk; exact zs_astore_n C0 hK q q2 hd h
  case iinc => obtain ⟨rfl, rfl, q, q2⟩ := hlk; exact zs_iinc C0 hK q q2 hd h
  case iconst => obtain ⟨rfl, q⟩ := hlk; exact zs_iconst C0 hK q hd h
  case bipush => obtain ⟨rfl, q⟩ := hlk; exact zs_bipush C0 hK q hd h
  case sipush => obtain ⟨rfl, q⟩ := hlk; exact zs_sipush C0 hK q hd h
  case ldc => obtain ⟨rfl, q⟩ := hlk; exact zs_ldc C0 hK q hd h
  case ldc_w => obtain ⟨rfl, q⟩ := hlk; exact zs_ldc_w C0 hK q hd h
  case lconst => obtain ⟨rfl, q⟩ := hlk; exact zs_lconst C0 hK q hd h
  case ldc2_w => obtain ⟨rfl, q⟩ := hlk; exact zs_ldc2_w C0 hK q hd h
  case iadd => cases hlk; exact zs_iadd C0 hK hd h
  case isub => cases hlk; exact zs_isub C0 hK hd h
  case imul => cases hlk; exact zs_imul C0 hK hd h
  case idiv => cases hlk; exact zs_idiv C0 hK hd h
  case irem => cases hlk; exact zs_irem C0 hK hd h
  case ineg => cases hlk; exact zs_ineg C0 hK hd h
  case iand => cases hlk; exact zs_iand C0 hK hd h
  case ior => cases hlk; exact zs_ior C0 hK hd h
  case ixor => cases hlk; exact zs_ixor C0 hK hd h
  case ishl => cases hlk; exact zs_ishl C0 hK hd h
  case ishr => cases hlk; exact zs_ishr C0 hK hd h
  case iushr => cases hlk; exact zs_iushr C0 hK hd h
  case ladd => cases hlk; exact zs_ladd C0 hK hd h
  case lmul => cases hlk; exact zs_lmul C0 hK hd h
  case land => cases hlk; exact zs_land C0 hK hd h
  case lor => cases hlk; exact zs_lor C0 hK hd h
  case lshl => cases hlk; exact zs_lshl C0 hK hd h
  case i2l => cases hlk; exact zs_i2l C0 hK hd h
  case l2i => cases hlk; exact zs_l2i C0 hK hd h
  case i2b => cases hlk; exact zs_i2b C0 hK hd h
  case i2s => cases hlk; exact zs_i2s C0 hK hd h
  case lcmp => cases hlk; exact zs_lcmp C0 hK hd h
  case dup => cases hlk; exact zs_dup C0 hK hd h
  case pop => cases hlk; exact zs_pop C0 hK hd h
  case dup_x1 => cases hlk; exact zs_dup_x1 C0 hK hd h
  case dup2 => cases hlk; exact zs_dup2 C0 hK hd h
  case goto => obtain ⟨rfl, q⟩ := hlk; exact zs_goto C0 hK q hd h
  case if_icmp => obtain ⟨rfl, q⟩ := hlk; exact zs_icmp C0 hK q hd h
  case ifCond => obtain ⟨rfl, q⟩ := hlk; exact zs_ifc C0 hK q hd h
  case tableswitch => obtain ⟨q1, q2, q3⟩ := hlk; exact zs_table C0 hK q1 q2 q3 hd h
  case lookupswitch => obtain ⟨q1, q2, q3⟩ := hlk; exact zs_lookup C0 hK q1 q2 q3 hd h
  case getfield => obtain ⟨rfl, q⟩ := hlk; exact zs_getfield C0 hK q hd h
  case putfield => obtain ⟨rfl, q⟩ := hlk; exact zs_putfield C0 hK hin q hd h
  case getstatic => obtain ⟨rfl, q, q2⟩ := hlk; exact zs_getstatic C0 hK q q2 hd h
  case iaload => cases hlk; exact zs_iaload C0 hK hd h
  case iastore => cases hlk; exact zs_iastore C0 hK hd h
  case laload => cases hlk; exact zs_laload C0 hK hd h
  case lastore => cases hlk; exact zs_lastore C0 hK hd h
  case aaload => cases hlk; exact zs_aaload C0 hK hd h
  case aastore => cases hlk; exact zs_aastore C0 hK hd h
  case arraylength => cases hlk; exact zs_arraylength C0 hK hd h
  case newarray => obtain ⟨rfl, q⟩ := hlk; exact zs_newarray C0 hK hR3 hR4 q hd h
  case anewarray => obtain ⟨rfl, q⟩ := hlk; exact zs_anewarray C0 hK hR3 hR4 q hd h
  case new => obtain ⟨rfl, q⟩ := hlk; exact zs_new C0 hK hR3 hR4 q hd h
  case invokevirtual => obtain ⟨rfl, q⟩ := hlk; exact zs_virtual C0 hX hK hC hm hR1 hR2 hR3 hR4 q hd h
  case invokestatic =>
    obtain ⟨rfl, q⟩ := hlk
    unfold zgo at h
    dsimp only at h
    split at h
    · exact zs_max C0 hK g1 g2 hR3 hR4 q hd h
    · exact zs_min C0 hK g1 g2 hR3 hR4 q hd h
    · exact zs_arc C0 hK g1 g2 q hd h
    · next n1 n2 n3 =>
      refine zs_static C0 hX hK hC hm hR1 hR2 hR3 hR4 (a := a) (b := b) (c1 := c1) ?_ hd h
      split at q
      · exact absurd rfl n1
      · exact absurd rfl n2
      · exact absurd rfl n3
      · exact q
  case invokespecial =>
    obtain ⟨rfl, q⟩ := hlk
    unfold zgo at h
    dsimp only at h
    split at h
    · exact zs_init0 C0 hK g1 g2 q hd h
    · next n1 =>
      refine zs_special C0 hX hK hC hm hR1 hR2 hR3 hR4 (a := a) (b := b) (d1 := d1) ?_ hd h
      split at q
      · exact absurd rfl n1
      · exact q
  case ireturn =>
    obtain ⟨rfl, q⟩ := hlk
    unfold zgo at h
    dsimp only at h
    split at h
    · next x =>
      have hr : r = (some (.inr (.inl x)), (L, σ)) ∧ zrt ret .ireturn (some (.inr (.inl x))) := by
        rcases q with ⟨rfl, q⟩ | ⟨rfl, q⟩
        · exact ⟨(Option.some.inj h).symm, rfl, Or.inl q⟩
        · obtain ⟨h1, h2⟩ := zite_none (show (if x = 0 ∨ x = 1 then some (some (.inr (.inl x)), (L, σ)) else none) = some r from h)
          exact ⟨(Option.some.inj h2).symm, rfl, Or.inr ⟨q, h1⟩⟩
      obtain ⟨rfl, hz⟩ := hr
      intro as cas tys H locs lsA hw ha hl hst hle
      exact hret as cas tys H locs lsA pc .ireturn hw ha (fun v hv => by cases hv; exact zv_hd hst) hle hd hz
    · cases h
  case lreturn =>
    obtain ⟨rfl, q⟩ := hlk
    unfold zgo at h
    dsimp only at h
    split at h
    · next x =>
      cases h
      intro as cas tys H locs lsA hw ha hl hst hle
      exact hret as cas tys H locs lsA pc .lreturn hw ha (fun v hv => by cases hv; exact zv_hd hst) hle hd ⟨rfl, q⟩
    · cases h
  case areturn =>
    obtain ⟨rfl, q⟩ := hlk
    unfold zgo at h
    dsimp only at h
    split at h
    · next x =>
      cases h
      intro as cas tys H locs lsA hw ha hl hst hle
      exact hret as cas tys H locs lsA pc .areturn hw ha (fun v hv => by cases hv; exact zv_hd hst) hle hd ⟨rfl, q⟩
    · cases h
  case return_ =>
    obtain ⟨rfl, q⟩ := hlk
    unfold zgo at h
    dsimp only at h
    split at h
    · cases h
      intro as cas tys H locs lsA hw ha hl hst hle
      exact hret as cas tys H locs lsA pc .return_ hw ha (fun v hv => by cases hv) hle hd ⟨rfl, q⟩
    · cases h
  all_goals cases h
end
end
section
/-! from runs to contracts -/
def zcodeOK (MT : List zMt) (y : MethodName) (cc : ByteArray) (n : Nat) (ret : Option FieldType) (C : List (Nat × zI)) : Prop := ∀ (pc : Nat) (q : zI), zlook C pc = some q → decode cc pc = .ok (q.1, q.2.1) ∧ zlk MT y.cls y.name n ret pc q
section
variable {p : Program} {l : Launch} {e : Env} {R : Room} {s : State} {m : MethodId} {args : Array Value} {below : List Frame} {meth : Method} {c : Code} {Q : State → Prop} {D : va_G} {as0 ea : Nat → Nat} {A : Nat → Prop} {nL : Nat} {L0 : List zS} {cc : ByteArray} {X Xc : zX} {r : zR} {ret : Option FieldType} {MT : List zMt} {d : Nat} {calls : zCalls} {y : MethodName} {Cd : List (Nat × zI)} {cuts : zCut}
theorem zrun_sound (C0 : zCtx p s m args c cc nL y.cls A ea X) (hin : y.name = "<init>" → meth.name = "<init>") (hX : ∀ (j : Nat) (q : Nat × (Nat → Int)), Xc[j]? = some q → X[j]? = some q) (hret : zRet p l e R s m args below meth c Q D as0 ea A cc ret L0 r) (hC : zCallOK l D ea Xc MT d calls) (hm : zCm calls) (hR1 : d + 1 ≤ R.frames) (hR2 : 40 * (d + 1) ≤ R.locals) (hR3 : r.2.1.length - L0.length ≤ R.cells) (hR4 : zslots r.2.1 - zslots L0 ≤ R.slots) (hcd : zcodeOK MT y cc nL ret Cd) :
    ∀ (n pc : Nat) (ls : zL) (st : List zV) (h : zH), zrun X calls Cd cuts n pc ls st h = some r → zG p l e R s m args below meth c Q D as0 ea A nL L0 pc ls st h := by
  intro n
  induction n with
  | zero => intro pc ls st h e; cases e
  | succ n ih =>
    intro pc ls st h e
    have e1 : zstp X calls Cd (zcutK cuts (zrun X calls Cd cuts n)) pc ls st h = some r := e
    unfold zstp at e1
    rcases hq : zlook Cd pc with _ | ⟨i, len, a, b, c1, d1, tab⟩
    · rw [hq] at e1; cases e1
    · rw [hq] at e1
      obtain ⟨h1, h2⟩ := hcd pc _ hq
      obtain ⟨L, σ⟩ := h
      refine zgo_sound C0 hin hX (fun pc' ls' st' h' hk => ⟨zrun_le X calls hm Cd cuts n _ _ _ _ _ hk, fun as cas tys H locs lsA hw ha hl hst hle => ?_⟩) hret hC hm hR1 hR2 hR3 hR4 i len a b c1 d1 tab h1 h2 e1
      exact ih _ _ _ _ hk as cas tys H locs lsA hw ha (hl.cut cuts pc') hst hle
end
theorem zsl_args (ad : Nat → Nat) : ∀ (vs : List zV) (i j : Nat) (v : zV), (zsl vs)[j]? = some (some v) → (i + j, zc ad v) ∈ lv_args i (vs.map (zc ad)) ∧ v ∈ vs
  | [], i, j, v, h => by simp [zsl] at h
  | .inr (.inr x) :: vs, i, 0, v, h => by
    simp [zsl] at h
    subst h
    exact ⟨List.mem_cons_self, List.mem_cons_self⟩
  | .inr (.inr x) :: vs, i, 1, v, h => by simp [zsl] at h
  | .inr (.inr x) :: vs, i, j + 2, v, h => by
    obtain ⟨h1, h2⟩ := zsl_args ad vs (i + 2) j v (by simpa [zsl] using h)
    refine ⟨List.mem_cons_of_mem _ ?_, List.mem_cons_of_mem _ h2⟩
    show _ ∈ lv_args (if (Value.long (Int64.ofInt x)).category = 2 then i + 2 else i + 1) _
    rw [if_pos (show (Value.long (Int64.ofInt x)).category = 2 from rfl), show i + (j + 2) = i + 2 + j by omega]
    exact h1
  | .inl o :: vs, i, 0, v, h => by
    simp [zsl] at h
    subst h
    exact ⟨List.mem_cons_self, List.mem_cons_self⟩
  | .inl o :: vs, i, j + 1, v, h => by
    obtain ⟨h1, h2⟩ := zsl_args ad vs (i + 1) j v (by simpa [zsl] using h)
    refine ⟨List.mem_cons_of_mem _ ?_, List.mem_cons_of_mem _ h2⟩
    show _ ∈ lv_args (if (zc ad (.inl o)).category = 2 then i + 2 else i + 1) _
    rw [if_neg (by rw [zc_cat]; exact fun q => by cases q), show i + (j + 1) = i + 1 + j by omega]
    exact h1
  | .inr (.inl x) :: vs, i, 0, v, h => by
    simp [zsl] at h
    subst h
    exact ⟨List.mem_cons_self, List.mem_cons_self⟩
  | .inr (.inl x) :: vs, i, j + 1, v, h => by
    obtain ⟨h1, h2⟩ := zsl_args ad vs (i + 1) j v (by simpa [zsl] using h)
    refine ⟨List.mem_cons_of_mem _ ?_, List.mem_cons_of_mem _ h2⟩
    show _ ∈ lv_args (if (Value.int (Int32.ofInt x)).category = 2 then i + 2 else i + 1) _
    rw [if_neg (fun q => by cases q), show i + (j + 1) = i + 1 + j by omega]
    exact h1
theorem zsl_len (ad : Nat → Nat) : ∀ (vs : List zV), (lg_sl (vs.map (zc ad))).length = (zsl vs).length
  | [] => rfl
  | .inr (.inr x) :: vs => by
    have := zsl_len ad vs
    unfold lg_sl at this ⊢
    rw [List.map_cons, List.flatMap_cons, List.length_append, this]
    simp [zsl, zc, Value.category]
    omega
  | .inl o :: vs => by
    have := zsl_len ad vs
    unfold lg_sl at this ⊢
    rw [List.map_cons, List.flatMap_cons, List.length_append, this, if_neg (by rw [zc_cat]; exact fun q => by cases q)]
    simp [zsl]
    omega
  | .inr (.inl x) :: vs => by
    have := zsl_len ad vs
    unfold lg_sl at this ⊢
    rw [List.map_cons, List.flatMap_cons, List.length_append, this, if_neg (by rw [zc_cat]; exact fun q => by cases q)]
    simp [zsl]
    omega
theorem zentry {ad : Nat → Nat} {n k : Nat} {vs : List zV} (hn : (zsl vs).length ≤ n) (hv : ∀ w ∈ vs, zvok k w) : zLc ad k ((lg_sl (vs.map (zc ad)) ++ List.replicate (n - (lg_sl (vs.map (zc ad))).length) Slot.unset).toArray) n (zargs n vs) := by
  have hl := lv_entry (vs.map (zc ad)) (n := n) (by rw [zsl_len]; exact hn)
  refine ⟨hl.1, hl.2.1, fun j v e => ?_⟩
  unfold zargs at e
  rw [List.getElem?_append] at e
  split at e
  · obtain ⟨h1, h2⟩ := zsl_args ad vs 0 j v e
    rw [Nat.zero_add] at h1
    exact ⟨hl.2.2 _ h1, hv v h2⟩
  · rw [List.getElem?_replicate] at e
    split at e <;> cases e
def zmok (MT : List zMt) (q : zMt) : Prop := match q with
  | (y, cc, n, ret, C, _) => plainName y.cls = true ∧ n ≤ 21 ∧ Cond.code y cc n ret ∈ lw_tbl ∧ zcodeOK MT y cc n ret C
theorem zmet_step (l : Launch) (D : va_G) (ea : Nat → Nat) (X : zX) (MT : List zMt) (hMT : ∀ q ∈ MT, zmok MT q) (d : Nat) (ih : zCallOK l D ea X MT d (zexec X MT d)) : zCallOK l D ea X MT (d + 1) (zexec X MT (d + 1)) := by
  intro id y cc n rt Cd cuts hq
  obtain ⟨g1, g2, g3, g4⟩ := hMT _ (List.mem_of_getElem? hq)
  refine ⟨g2, g3, ?_⟩
  intro vs L σ v L' σ' he hok hvs as cas tys sz hT
  have he1 : (match MT[id]? with
      | some (_, _, n, _, C, cuts) => bif Nat.ble (zsl vs).length n then zrunL X (zexec X MT d) C cuts 0 (zcm cuts 0 (zargs n vs)) [] (L, σ) else none
      | none => none) = some (v, (L', σ')) := he
  rw [hq] at he1
  obtain ⟨hb, he2⟩ := zbif_some (show (bif Nat.ble (zsl vs).length n then zrunL X (zexec X MT d) Cd cuts 0 (zcm cuts 0 (zargs n vs)) [] (L, σ) else none) = some (v, (L', σ')) from he1)
  have hb := Nat.le_of_ble_eq_true hb
  obtain ⟨k, hk⟩ := zrunL_some he2
  refine Met.ofW (cc := cc) (maxL := n) (ret := rt) g1 rfl ?_
  intro p e s m args below meth c s₁ B hml hv
  obtain ⟨rfl, hsz, hP, hK, hD, hE, hN⟩ := hv
  have hts := atoms_spec (ws := Cond.code y cc n rt :: zTb) B.pre
  have hown : s.vm.findClass y.cls = some m.cls := findClass_of_methodNamed B.named
  have hlocks := B.notSynchronized
  have hr := B.returns
  subst hsz
  have hD1 := hD.self (sz := s.heap.size)
  have C0 : zCtx p s m (vs.map (zc (zad as ea))).toArray c cc n y.cls (va_A (zws as ea cas L σ) s.heap.size) ea X := ⟨B.exec, B.bytes, hml, hown, fun w hw => hts w (List.mem_cons_of_mem _ hw), fun q h => Or.inr h, hE, hN⟩
  have hret : zRet p l e (zroom (d + 1) (L'.length - L.length) (zslots L' - zslots L)) s m (vs.map (zc (zad as ea))).toArray below meth c (MQ below (zQ D as ea L L' σ' v (va_A (zws as ea cas L σ) s.heap.size)) (vs.map (zc (zad as ea))).toArray s (L'.length - L.length) (zslots L' - zslots L) (va_A (zws as ea cas L σ) s.heap.size)) D as ea (va_A (zws as ea cas L σ) s.heap.size) cc rt L (v, (L', σ')) := by
    intro as1 cas1 tys1 H locs lsA pc i hw ha hv hle hd hz
    obtain ⟨wK, wP, wD, wS, wH, wT⟩ := hw
    have hpost : zPost as L L' σ' v (as1, cas1, tys1) := ⟨ha, wH, hv, wT⟩
    have hB : ∀ t : State, t.heap = H → s.WarmedH t.vm → zB D ea L' σ' (va_A (zws as ea cas L σ) s.heap.size) (as1, cas1, tys1) t := fun t ht hW => ⟨by rw [ht]; exact wP, va_K.moved hW.alike wK, wD⟩
    rcases v with _ | (_ | k1) | i1 | i1
    · obtain ⟨rfl, hrt⟩ := hz
      exact W.vret B.exec B.bytes (hr.trans hrt) (fun t ht hW => ⟨⟨(as1, cas1, tys1), rfl, hpost, hB t ht hW⟩, wS.F ht⟩) wS.2.2 hd hlocks
    · exact hz.elim
    · obtain ⟨rfl, rt1, hrt, hrk⟩ := hz
      exact W.aret (v := .ref (zad as1 ea k1)) B.exec B.bytes (hr.trans hrt) hrk (Or.inr ⟨_, rfl⟩) (fun t ht hW => ⟨⟨(as1, cas1, tys1), zad as1 ea k1, rfl, hpost, rfl, hB t ht hW⟩, wS.F ht⟩) wS.2.2 hd hlocks
    · obtain ⟨rfl, hrt⟩ := hz
      rcases hrt with hrt | ⟨hrt, hx⟩
      · exact W.iret (v := Int32.ofInt i1) B.exec B.bytes (hr.trans hrt) (fun t ht hW => ⟨⟨_, (as1, cas1, tys1), rfl, ⟨rfl, hpost⟩, hB t ht hW⟩, wS.F ht⟩) wS.2.2 hd hlocks
      · exact W.zret (v := Int32.ofInt i1) (ty := .boolean) B.exec B.bytes (hr.trans hrt) (by rcases hx with rfl | rfl <;> decide) (fun t ht hW => ⟨⟨_, (as1, cas1, tys1), rfl, ⟨rfl, hpost⟩, hB t ht hW⟩, wS.F ht⟩) wS.2.2 hd hlocks
    · obtain ⟨rfl, hrt⟩ := hz
      exact W.lret (v := Int64.ofInt i1) B.exec B.bytes (hr.trans hrt) (fun t ht hW => ⟨⟨_, (as1, cas1, tys1), rfl, ⟨rfl, hpost⟩, hB t ht hW⟩, wS.F ht⟩) wS.2.2 hd hlocks
  have key := zrun_sound (R := zroom (d + 1) (L'.length - L.length) (zslots L' - zslots L)) (cuts := cuts) C0 (fun hi => by rw [← hi]; exact (name_of_methodNamed B.named B.method).1) (fun _ _ h => h) hret ih (zexec_m X MT d) (Nat.le_refl _) (Nat.le_refl _) (Nat.le_refl _) (Nat.le_refl _) g4 k 0 _ [] (L, σ) hk as cas tys s.heap [] _ ⟨hK, hP, hD1, va_S.rf, hok, hT⟩ (fun _ _ => rfl) ((zentry hb hvs).cut cuts 0) (fun _ h => by cases h) (zle_rf L)
  rw [lg_entry_eq]
  have e1 : L.length - L.length = 0 := Nat.sub_self _
  have e2 : zslots L - zslots L = 0 := Nat.sub_self _
  dsimp only at key
  rw [e1, e2] at key
  exact key
theorem zmet_all (l : Launch) (D : va_G) (ea : Nat → Nat) (X : zX) (MT : List zMt) (hMT : ∀ q ∈ MT, zmok MT q) : ∀ d, zCallOK l D ea X MT d (zexec X MT d)
  | 0 => by
    intro id y cc n rt Cd cuts hq
    obtain ⟨g1, g2, g3, g4⟩ := hMT _ (List.mem_of_getElem? hq)
    exact ⟨g2, g3, fun vs L σ v L' σ' he => by cases he⟩
  | d + 1 => zmet_step l D ea X MT hMT d (zmet_all l D ea X MT hMT d)
end
