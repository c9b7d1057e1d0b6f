/-- a private method of a class that the tables say can be made, by its rows of tables_1 -/
def lw_okq (q : MethodName × Nat) : Prop := (q.1.cls ≠ "java/lang/invoke/MethodHandle" ∧ q.1.cls ≠ "java/lang/invoke/VarHandle") ∧ Cond.instantiable q.1.cls q.2 ∈ tables_1 ∧ Cond.privateMethod q.1 ∈ tables_1 ∧ Cond.instanceMethod q.1 ∈ tables_1
theorem lw_p0 : lw_okq (⟨"ReservoirMind", "forgetFound", "()V"⟩, 17) := ⟨⟨by decide +kernel, by decide +kernel⟩, List.mem_of_getElem? (i := 21) (by decide +kernel), List.mem_of_getElem? (i := 378) (by decide +kernel), List.mem_of_getElem? (i := 379) (by decide +kernel)⟩
theorem lw_p1 : lw_okq (⟨"ReservoirMind$Basin", "sortByRank", "()V"⟩, 11) := ⟨⟨by decide +kernel, by decide +kernel⟩, List.mem_of_getElem? (i := 35) (by decide +kernel), List.mem_of_getElem? (i := 444) (by decide +kernel), List.mem_of_getElem? (i := 445) (by decide +kernel)⟩
theorem lw_p2 : lw_okq (⟨"ReservoirMind$Lines", "setInLast", "(II)V"⟩, 4) := ⟨⟨by decide +kernel, by decide +kernel⟩, List.mem_of_getElem? (i := 125) (by decide +kernel), List.mem_of_getElem? (i := 492) (by decide +kernel), List.mem_of_getElem? (i := 493) (by decide +kernel)⟩
theorem lw_p3 : lw_okq (⟨"ReservoirMind$Clauses", "takeClause", "(LReservoirMind$Lines;)Z"⟩, 3) := ⟨⟨by decide +kernel, by decide +kernel⟩, List.mem_of_getElem? (i := 285) (by decide +kernel), List.mem_of_getElem? (i := 504) (by decide +kernel), List.mem_of_getElem? (i := 505) (by decide +kernel)⟩
theorem lw_p4 : lw_okq (⟨"ReservoirMind$Clauses", "takeNumber", "(LReservoirMind$Lines;ZI)Z"⟩, 3) := ⟨⟨by decide +kernel, by decide +kernel⟩, List.mem_of_getElem? (i := 285) (by decide +kernel), List.mem_of_getElem? (i := 574) (by decide +kernel), List.mem_of_getElem? (i := 575) (by decide +kernel)⟩
theorem lw_p5 : lw_okq (⟨"ReservoirMind$Clauses", "isDone", "(LReservoirMind$Basin;I)Z"⟩, 3) := ⟨⟨by decide +kernel, by decide +kernel⟩, List.mem_of_getElem? (i := 285) (by decide +kernel), List.mem_of_getElem? (i := 590) (by decide +kernel), List.mem_of_getElem? (i := 591) (by decide +kernel)⟩
theorem lw_p6 : lw_okq (⟨"ReservoirMind$Demand", "trickleOf", "(I)I"⟩, 6) := ⟨⟨by decide +kernel, by decide +kernel⟩, List.mem_of_getElem? (i := 42) (by decide +kernel), List.mem_of_getElem? (i := 668) (by decide +kernel), List.mem_of_getElem? (i := 669) (by decide +kernel)⟩
theorem lw_p7 : lw_okq (⟨"ReservoirMind", "isStore", "(I)Z"⟩, 17) := ⟨⟨by decide +kernel, by decide +kernel⟩, List.mem_of_getElem? (i := 21) (by decide +kernel), List.mem_of_getElem? (i := 676) (by decide +kernel), List.mem_of_getElem? (i := 677) (by decide +kernel)⟩
theorem lw_p8 : lw_okq (⟨"ReservoirMind", "solveNow", "()V"⟩, 17) := ⟨⟨by decide +kernel, by decide +kernel⟩, List.mem_of_getElem? (i := 21) (by decide +kernel), List.mem_of_getElem? (i := 704) (by decide +kernel), List.mem_of_getElem? (i := 705) (by decide +kernel)⟩
theorem lw_p9 : lw_okq (⟨"ReservoirMind$BestRows", "fillMeans", "(LReservoirMind$Basin;I)V"⟩, 4) := ⟨⟨by decide +kernel, by decide +kernel⟩, List.mem_of_getElem? (i := 167) (by decide +kernel), List.mem_of_getElem? (i := 720) (by decide +kernel), List.mem_of_getElem? (i := 721) (by decide +kernel)⟩
theorem lw_p10 : lw_okq (⟨"ReservoirMind$BestRows", "choose", "(LReservoirMind$Basin;III)V"⟩, 4) := ⟨⟨by decide +kernel, by decide +kernel⟩, List.mem_of_getElem? (i := 167) (by decide +kernel), List.mem_of_getElem? (i := 725) (by decide +kernel), List.mem_of_getElem? (i := 726) (by decide +kernel)⟩
theorem lw_p11 : lw_okq (⟨"ReservoirMind$BestRows", "valueOf", "(LReservoirMind$Basin;IIII)F"⟩, 4) := ⟨⟨by decide +kernel, by decide +kernel⟩, List.mem_of_getElem? (i := 167) (by decide +kernel), List.mem_of_getElem? (i := 732) (by decide +kernel), List.mem_of_getElem? (i := 733) (by decide +kernel)⟩
theorem lw_p12 : lw_okq (⟨"ReservoirMind$Chain", "weighFrom", "(II)I"⟩, 7) := ⟨⟨by decide +kernel, by decide +kernel⟩, List.mem_of_getElem? (i := 187) (by decide +kernel), List.mem_of_getElem? (i := 790) (by decide +kernel), List.mem_of_getElem? (i := 791) (by decide +kernel)⟩
theorem lw_p13 : lw_okq (⟨"ReservoirMind$Chain", "turnOn", "(I)I"⟩, 7) := ⟨⟨by decide +kernel, by decide +kernel⟩, List.mem_of_getElem? (i := 187) (by decide +kernel), List.mem_of_getElem? (i := 797) (by decide +kernel), List.mem_of_getElem? (i := 798) (by decide +kernel)⟩
theorem lw_p14 : lw_okq (⟨"ReservoirMind", "canBeWorth", "(II)Z"⟩, 17) := ⟨⟨by decide +kernel, by decide +kernel⟩, List.mem_of_getElem? (i := 21) (by decide +kernel), List.mem_of_getElem? (i := 809) (by decide +kernel), List.mem_of_getElem? (i := 810) (by decide +kernel)⟩
theorem lw_p15 : lw_okq (⟨"ReservoirMind", "solveThought", "()V"⟩, 17) := ⟨⟨by decide +kernel, by decide +kernel⟩, List.mem_of_getElem? (i := 21) (by decide +kernel), List.mem_of_getElem? (i := 822) (by decide +kernel), List.mem_of_getElem? (i := 823) (by decide +kernel)⟩
def lw_privs_1 : List (MethodName × Nat) := [(⟨"ReservoirMind", "forgetFound", "()V"⟩, 17), (⟨"ReservoirMind$Basin", "sortByRank", "()V"⟩, 11), (⟨"ReservoirMind$Lines", "setInLast", "(II)V"⟩, 4), (⟨"ReservoirMind$Clauses", "takeClause", "(LReservoirMind$Lines;)Z"⟩, 3), (⟨"ReservoirMind$Clauses", "takeNumber", "(LReservoirMind$Lines;ZI)Z"⟩, 3), (⟨"ReservoirMind$Clauses", "isDone", "(LReservoirMind$Basin;I)Z"⟩, 3), (⟨"ReservoirMind$Demand", "trickleOf", "(I)I"⟩, 6), (⟨"ReservoirMind", "isStore", "(I)Z"⟩, 17), (⟨"ReservoirMind", "solveNow", "()V"⟩, 17), (⟨"ReservoirMind$BestRows", "fillMeans", "(LReservoirMind$Basin;I)V"⟩, 4), (⟨"ReservoirMind$BestRows", "choose", "(LReservoirMind$Basin;III)V"⟩, 4), (⟨"ReservoirMind$BestRows", "valueOf", "(LReservoirMind$Basin;IIII)F"⟩, 4), (⟨"ReservoirMind$Chain", "weighFrom", "(II)I"⟩, 7), (⟨"ReservoirMind$Chain", "turnOn", "(I)I"⟩, 7), (⟨"ReservoirMind", "canBeWorth", "(II)Z"⟩, 17), (⟨"ReservoirMind", "solveThought", "()V"⟩, 17)]
theorem lw_r1 : ∀ q ∈ lw_privs_1, lw_okq q := List.forall_mem_cons.mpr ⟨lw_p0, List.forall_mem_cons.mpr ⟨lw_p1, List.forall_mem_cons.mpr ⟨lw_p2, List.forall_mem_cons.mpr ⟨lw_p3, List.forall_mem_cons.mpr ⟨lw_p4, List.forall_mem_cons.mpr ⟨lw_p5, List.forall_mem_cons.mpr ⟨lw_p6, List.forall_mem_cons.mpr ⟨lw_p7, List.forall_mem_cons.mpr ⟨lw_p8, List.forall_mem_cons.mpr ⟨lw_p9, List.forall_mem_cons.mpr ⟨lw_p10, List.forall_mem_cons.mpr ⟨lw_p11, List.forall_mem_cons.mpr ⟨lw_p12, List.forall_mem_cons.mpr ⟨lw_p13, List.forall_mem_cons.mpr ⟨lw_p14, List.forall_mem_cons.mpr ⟨lw_p15, fun _ h => absurd h List.not_mem_nil⟩⟩⟩⟩⟩⟩⟩⟩⟩⟩⟩⟩⟩⟩⟩⟩
theorem lw_p16 : lw_okq (⟨"ReservoirMind", "canReplay", "(III)Z"⟩, 17) := ⟨⟨by decide +kernel, by decide +kernel⟩, List.mem_of_getElem? (i := 21) (by decide +kernel), List.mem_of_getElem? (i := 834) (by decide +kernel), List.mem_of_getElem? (i := 835) (by decide +kernel)⟩
theorem lw_p17 : lw_okq (⟨"ReservoirMind", "goThrough", "(IIII)V"⟩, 17) := ⟨⟨by decide +kernel, by decide +kernel⟩, List.mem_of_getElem? (i := 21) (by decide +kernel), List.mem_of_getElem? (i := 838) (by decide +kernel), List.mem_of_getElem? (i := 839) (by decide +kernel)⟩
theorem lw_p18 : lw_okq (⟨"ReservoirMind$Course", "leastStore", "()I"⟩, 8) := ⟨⟨by decide +kernel, by decide +kernel⟩, List.mem_of_getElem? (i := 247) (by decide +kernel), List.mem_of_getElem? (i := 866) (by decide +kernel), List.mem_of_getElem? (i := 867) (by decide +kernel)⟩
theorem lw_p19 : lw_okq (⟨"ReservoirMind", "findFits", "()V"⟩, 17) := ⟨⟨by decide +kernel, by decide +kernel⟩, List.mem_of_getElem? (i := 21) (by decide +kernel), List.mem_of_getElem? (i := 907) (by decide +kernel), List.mem_of_getElem? (i := 908) (by decide +kernel)⟩
theorem lw_p20 : lw_okq (⟨"ReservoirMind", "goesAsSeen", "(LReservoirMind$BestRows;)Z"⟩, 17) := ⟨⟨by decide +kernel, by decide +kernel⟩, List.mem_of_getElem? (i := 21) (by decide +kernel), List.mem_of_getElem? (i := 913) (by decide +kernel), List.mem_of_getElem? (i := 914) (by decide +kernel)⟩
theorem lw_p21 : lw_okq (⟨"ReservoirMindModel", "becomes", "(II)I"⟩, 36) := ⟨⟨by decide +kernel, by decide +kernel⟩, List.mem_of_getElem? (i := 1010) (by decide +kernel), List.mem_of_getElem? (i := 1136) (by decide +kernel), List.mem_of_getElem? (i := 1137) (by decide +kernel)⟩
theorem lw_p22 : lw_okq (⟨"ReservoirMindModel", "parts", "(I)I"⟩, 36) := ⟨⟨by decide +kernel, by decide +kernel⟩, List.mem_of_getElem? (i := 1010) (by decide +kernel), List.mem_of_getElem? (i := 1156) (by decide +kernel), List.mem_of_getElem? (i := 1157) (by decide +kernel)⟩
theorem lw_p23 : lw_okq (⟨"ReservoirMindModel", "part", "(II)I"⟩, 36) := ⟨⟨by decide +kernel, by decide +kernel⟩, List.mem_of_getElem? (i := 1010) (by decide +kernel), List.mem_of_getElem? (i := 1160) (by decide +kernel), List.mem_of_getElem? (i := 1161) (by decide +kernel)⟩
theorem lw_p24 : lw_okq (⟨"ReservoirMindModel", "isDemand", "(I)Z"⟩, 36) := ⟨⟨by decide +kernel, by decide +kernel⟩, List.mem_of_getElem? (i := 1010) (by decide +kernel), List.mem_of_getElem? (i := 1177) (by decide +kernel), List.mem_of_getElem? (i := 1178) (by decide +kernel)⟩
theorem lw_p25 : lw_okq (⟨"ReservoirMindModel", "top", "(I)I"⟩, 36) := ⟨⟨by decide +kernel, by decide +kernel⟩, List.mem_of_getElem? (i := 1010) (by decide +kernel), List.mem_of_getElem? (i := 1194) (by decide +kernel), List.mem_of_getElem? (i := 1195) (by decide +kernel)⟩
theorem lw_p26 : lw_okq (⟨"ReservoirMindModel", "rankOf", "(I)I"⟩, 36) := ⟨⟨by decide +kernel, by decide +kernel⟩, List.mem_of_getElem? (i := 1010) (by decide +kernel), List.mem_of_getElem? (i := 1210) (by decide +kernel), List.mem_of_getElem? (i := 1211) (by decide +kernel)⟩
theorem lw_p27 : lw_okq (⟨"ReservoirMindModel", "isServedAhead", "(II)Z"⟩, 36) := ⟨⟨by decide +kernel, by decide +kernel⟩, List.mem_of_getElem? (i := 1010) (by decide +kernel), List.mem_of_getElem? (i := 1214) (by decide +kernel), List.mem_of_getElem? (i := 1215) (by decide +kernel)⟩
theorem lw_p28 : lw_okq (⟨"ReservoirMindModel", "at", "(II)I"⟩, 36) := ⟨⟨by decide +kernel, by decide +kernel⟩, List.mem_of_getElem? (i := 1010) (by decide +kernel), List.mem_of_getElem? (i := 1218) (by decide +kernel), List.mem_of_getElem? (i := 1219) (by decide +kernel)⟩
theorem lw_p29 : lw_okq (⟨"ReservoirMindModel", "wants", "(II)I"⟩, 36) := ⟨⟨by decide +kernel, by decide +kernel⟩, List.mem_of_getElem? (i := 1010) (by decide +kernel), List.mem_of_getElem? (i := 1230) (by decide +kernel), List.mem_of_getElem? (i := 1231) (by decide +kernel)⟩
theorem lw_p30 : lw_okq (⟨"ReservoirMindModel", "ranks", "()V"⟩, 36) := ⟨⟨by decide +kernel, by decide +kernel⟩, List.mem_of_getElem? (i := 1010) (by decide +kernel), List.mem_of_getElem? (i := 1240) (by decide +kernel), List.mem_of_getElem? (i := 1241) (by decide +kernel)⟩
theorem lw_p31 : lw_okq (⟨"ReservoirMindModel", "byRank", "(I)I"⟩, 36) := ⟨⟨by decide +kernel, by decide +kernel⟩, List.mem_of_getElem? (i := 1010) (by decide +kernel), List.mem_of_getElem? (i := 1244) (by decide +kernel), List.mem_of_getElem? (i := 1245) (by decide +kernel)⟩
def lw_privs_2 : List (MethodName × Nat) := [(⟨"ReservoirMind", "canReplay", "(III)Z"⟩, 17), (⟨"ReservoirMind", "goThrough", "(IIII)V"⟩, 17), (⟨"ReservoirMind$Course", "leastStore", "()I"⟩, 8), (⟨"ReservoirMind", "findFits", "()V"⟩, 17), (⟨"ReservoirMind", "goesAsSeen", "(LReservoirMind$BestRows;)Z"⟩, 17), (⟨"ReservoirMindModel", "becomes", "(II)I"⟩, 36), (⟨"ReservoirMindModel", "parts", "(I)I"⟩, 36), (⟨"ReservoirMindModel", "part", "(II)I"⟩, 36), (⟨"ReservoirMindModel", "isDemand", "(I)Z"⟩, 36), (⟨"ReservoirMindModel", "top", "(I)I"⟩, 36), (⟨"ReservoirMindModel", "rankOf", "(I)I"⟩, 36), (⟨"ReservoirMindModel", "isServedAhead", "(II)Z"⟩, 36), (⟨"ReservoirMindModel", "at", "(II)I"⟩, 36), (⟨"ReservoirMindModel", "wants", "(II)I"⟩, 36), (⟨"ReservoirMindModel", "ranks", "()V"⟩, 36), (⟨"ReservoirMindModel", "byRank", "(I)I"⟩, 36)]
theorem lw_r2 : ∀ q ∈ lw_privs_2, lw_okq q := List.forall_mem_cons.mpr ⟨lw_p16, List.forall_mem_cons.mpr ⟨lw_p17, List.forall_mem_cons.mpr ⟨lw_p18, List.forall_mem_cons.mpr ⟨lw_p19, List.forall_mem_cons.mpr ⟨lw_p20, List.forall_mem_cons.mpr ⟨lw_p21, List.forall_mem_cons.mpr ⟨lw_p22, List.forall_mem_cons.mpr ⟨lw_p23, List.forall_mem_cons.mpr ⟨lw_p24, List.forall_mem_cons.mpr ⟨lw_p25, List.forall_mem_cons.mpr ⟨lw_p26, List.forall_mem_cons.mpr ⟨lw_p27, List.forall_mem_cons.mpr ⟨lw_p28, List.forall_mem_cons.mpr ⟨lw_p29, List.forall_mem_cons.mpr ⟨lw_p30, List.forall_mem_cons.mpr ⟨lw_p31, fun _ h => absurd h List.not_mem_nil⟩⟩⟩⟩⟩⟩⟩⟩⟩⟩⟩⟩⟩⟩⟩⟩
theorem lw_p32 : lw_okq (⟨"ReservoirMindModel", "serves", "(II)I"⟩, 36) := ⟨⟨by decide +kernel, by decide +kernel⟩, List.mem_of_getElem? (i := 1010) (by decide +kernel), List.mem_of_getElem? (i := 1248) (by decide +kernel), List.mem_of_getElem? (i := 1249) (by decide +kernel)⟩
theorem lw_p33 : lw_okq (⟨"ReservoirMindModel", "gain", "(III)I"⟩, 36) := ⟨⟨by decide +kernel, by decide +kernel⟩, List.mem_of_getElem? (i := 1010) (by decide +kernel), List.mem_of_getElem? (i := 1253) (by decide +kernel), List.mem_of_getElem? (i := 1254) (by decide +kernel)⟩
theorem lw_p34 : lw_okq (⟨"ReservoirMindModel", "isStore", "(I)Z"⟩, 36) := ⟨⟨by decide +kernel, by decide +kernel⟩, List.mem_of_getElem? (i := 1010) (by decide +kernel), List.mem_of_getElem? (i := 1261) (by decide +kernel), List.mem_of_getElem? (i := 1262) (by decide +kernel)⟩
theorem lw_p35 : lw_okq (⟨"ReservoirMindModel", "goes", "(IIII)V"⟩, 36) := ⟨⟨by decide +kernel, by decide +kernel⟩, List.mem_of_getElem? (i := 1010) (by decide +kernel), List.mem_of_getElem? (i := 1265) (by decide +kernel), List.mem_of_getElem? (i := 1266) (by decide +kernel)⟩
theorem lw_p36 : lw_okq (⟨"ReservoirMindModel", "finds", "(I)V"⟩, 36) := ⟨⟨by decide +kernel, by decide +kernel⟩, List.mem_of_getElem? (i := 1010) (by decide +kernel), List.mem_of_getElem? (i := 1273) (by decide +kernel), List.mem_of_getElem? (i := 1274) (by decide +kernel)⟩
theorem lw_p37 : lw_okq (⟨"ReservoirMindModel", "findsOne", "(III)V"⟩, 36) := ⟨⟨by decide +kernel, by decide +kernel⟩, List.mem_of_getElem? (i := 1010) (by decide +kernel), List.mem_of_getElem? (i := 1280) (by decide +kernel), List.mem_of_getElem? (i := 1281) (by decide +kernel)⟩
theorem lw_p38 : lw_okq (⟨"ReservoirMindModel", "comesTo", "(IIII)F"⟩, 36) := ⟨⟨by decide +kernel, by decide +kernel⟩, List.mem_of_getElem? (i := 1010) (by decide +kernel), List.mem_of_getElem? (i := 1284) (by decide +kernel), List.mem_of_getElem? (i := 1285) (by decide +kernel)⟩
theorem lw_p39 : lw_okq (⟨"ReservoirMindModel", "mean", "(III)F"⟩, 36) := ⟨⟨by decide +kernel, by decide +kernel⟩, List.mem_of_getElem? (i := 1010) (by decide +kernel), List.mem_of_getElem? (i := 1288) (by decide +kernel), List.mem_of_getElem? (i := 1289) (by decide +kernel)⟩
theorem lw_p40 : lw_okq (⟨"ReservoirMindModel", "isAhead", "(I)Z"⟩, 36) := ⟨⟨by decide +kernel, by decide +kernel⟩, List.mem_of_getElem? (i := 1010) (by decide +kernel), List.mem_of_getElem? (i := 1309) (by decide +kernel), List.mem_of_getElem? (i := 1310) (by decide +kernel)⟩
theorem lw_p41 : lw_okq (⟨"ReservoirMindModel", "findWay", "(II)V"⟩, 36) := ⟨⟨by decide +kernel, by decide +kernel⟩, List.mem_of_getElem? (i := 1010) (by decide +kernel), List.mem_of_getElem? (i := 1326) (by decide +kernel), List.mem_of_getElem? (i := 1327) (by decide +kernel)⟩
theorem lw_p42 : lw_okq (⟨"ReservoirMindModel", "bestNow", "(II)F"⟩, 36) := ⟨⟨by decide +kernel, by decide +kernel⟩, List.mem_of_getElem? (i := 1010) (by decide +kernel), List.mem_of_getElem? (i := 1342) (by decide +kernel), List.mem_of_getElem? (i := 1343) (by decide +kernel)⟩
theorem lw_p43 : lw_okq (⟨"ReservoirMindModel", "isReplay", "(III)Z"⟩, 36) := ⟨⟨by decide +kernel, by decide +kernel⟩, List.mem_of_getElem? (i := 1010) (by decide +kernel), List.mem_of_getElem? (i := 1357) (by decide +kernel), List.mem_of_getElem? (i := 1358) (by decide +kernel)⟩
theorem lw_p44 : lw_okq (⟨"ReservoirMindModel", "replays", "(IIIII)V"⟩, 36) := ⟨⟨by decide +kernel, by decide +kernel⟩, List.mem_of_getElem? (i := 1010) (by decide +kernel), List.mem_of_getElem? (i := 1361) (by decide +kernel), List.mem_of_getElem? (i := 1362) (by decide +kernel)⟩
theorem lw_p45 : lw_okq (⟨"ReservoirMindModel", "nearest", "(II)I"⟩, 36) := ⟨⟨by decide +kernel, by decide +kernel⟩, List.mem_of_getElem? (i := 1010) (by decide +kernel), List.mem_of_getElem? (i := 1365) (by decide +kernel), List.mem_of_getElem? (i := 1366) (by decide +kernel)⟩
theorem lw_p46 : lw_okq (⟨"ReservoirMindModel", "isSeen", "()Z"⟩, 36) := ⟨⟨by decide +kernel, by decide +kernel⟩, List.mem_of_getElem? (i := 1010) (by decide +kernel), List.mem_of_getElem? (i := 1386) (by decide +kernel), List.mem_of_getElem? (i := 1387) (by decide +kernel)⟩
theorem lw_p47 : lw_okq (⟨"ReservoirMindModel", "isRelease", "(IIII)Z"⟩, 36) := ⟨⟨by decide +kernel, by decide +kernel⟩, List.mem_of_getElem? (i := 1010) (by decide +kernel), List.mem_of_getElem? (i := 1390) (by decide +kernel), List.mem_of_getElem? (i := 1391) (by decide +kernel)⟩
def lw_privs_3 : List (MethodName × Nat) := [(⟨"ReservoirMindModel", "serves", "(II)I"⟩, 36), (⟨"ReservoirMindModel", "gain", "(III)I"⟩, 36), (⟨"ReservoirMindModel", "isStore", "(I)Z"⟩, 36), (⟨"ReservoirMindModel", "goes", "(IIII)V"⟩, 36), (⟨"ReservoirMindModel", "finds", "(I)V"⟩, 36), (⟨"ReservoirMindModel", "findsOne", "(III)V"⟩, 36), (⟨"ReservoirMindModel", "comesTo", "(IIII)F"⟩, 36), (⟨"ReservoirMindModel", "mean", "(III)F"⟩, 36), (⟨"ReservoirMindModel", "isAhead", "(I)Z"⟩, 36), (⟨"ReservoirMindModel", "findWay", "(II)V"⟩, 36), (⟨"ReservoirMindModel", "bestNow", "(II)F"⟩, 36), (⟨"ReservoirMindModel", "isReplay", "(III)Z"⟩, 36), (⟨"ReservoirMindModel", "replays", "(IIIII)V"⟩, 36), (⟨"ReservoirMindModel", "nearest", "(II)I"⟩, 36), (⟨"ReservoirMindModel", "isSeen", "()Z"⟩, 36), (⟨"ReservoirMindModel", "isRelease", "(IIII)Z"⟩, 36)]
theorem lw_r3 : ∀ q ∈ lw_privs_3, lw_okq q := List.forall_mem_cons.mpr ⟨lw_p32, List.forall_mem_cons.mpr ⟨lw_p33, List.forall_mem_cons.mpr ⟨lw_p34, List.forall_mem_cons.mpr ⟨lw_p35, List.forall_mem_cons.mpr ⟨lw_p36, List.forall_mem_cons.mpr ⟨lw_p37, List.forall_mem_cons.mpr ⟨lw_p38, List.forall_mem_cons.mpr ⟨lw_p39, List.forall_mem_cons.mpr ⟨lw_p40, List.forall_mem_cons.mpr ⟨lw_p41, List.forall_mem_cons.mpr ⟨lw_p42, List.forall_mem_cons.mpr ⟨lw_p43, List.forall_mem_cons.mpr ⟨lw_p44, List.forall_mem_cons.mpr ⟨lw_p45, List.forall_mem_cons.mpr ⟨lw_p46, List.forall_mem_cons.mpr ⟨lw_p47, fun _ h => absurd h List.not_mem_nil⟩⟩⟩⟩⟩⟩⟩⟩⟩⟩⟩⟩⟩⟩⟩⟩
theorem lw_p48 : lw_okq (⟨"ReservoirMindModel", "readClause", "(I)V"⟩, 36) := ⟨⟨by decide +kernel, by decide +kernel⟩, List.mem_of_getElem? (i := 1010) (by decide +kernel), List.mem_of_getElem? (i := 1422) (by decide +kernel), List.mem_of_getElem? (i := 1423) (by decide +kernel)⟩
theorem lw_p49 : lw_okq (⟨"ReservoirMindModel", "digits", "(II)V"⟩, 36) := ⟨⟨by decide +kernel, by decide +kernel⟩, List.mem_of_getElem? (i := 1010) (by decide +kernel), List.mem_of_getElem? (i := 1426) (by decide +kernel), List.mem_of_getElem? (i := 1427) (by decide +kernel)⟩
theorem lw_p50 : lw_okq (⟨"ReservoirMindModel", "digit", "()I"⟩, 36) := ⟨⟨by decide +kernel, by decide +kernel⟩, List.mem_of_getElem? (i := 1010) (by decide +kernel), List.mem_of_getElem? (i := 1430) (by decide +kernel), List.mem_of_getElem? (i := 1431) (by decide +kernel)⟩
theorem lw_p51 : lw_okq (⟨"ReservoirMindModel", "isDigit", "()Z"⟩, 36) := ⟨⟨by decide +kernel, by decide +kernel⟩, List.mem_of_getElem? (i := 1010) (by decide +kernel), List.mem_of_getElem? (i := 1434) (by decide +kernel), List.mem_of_getElem? (i := 1435) (by decide +kernel)⟩
theorem lw_p52 : lw_okq (⟨"ReservoirMindModel", "wrong", "()V"⟩, 36) := ⟨⟨by decide +kernel, by decide +kernel⟩, List.mem_of_getElem? (i := 1010) (by decide +kernel), List.mem_of_getElem? (i := 1440) (by decide +kernel), List.mem_of_getElem? (i := 1441) (by decide +kernel)⟩
theorem lw_p53 : lw_okq (⟨"ReservoirMindModel", "twoDigits", "()I"⟩, 36) := ⟨⟨by decide +kernel, by decide +kernel⟩, List.mem_of_getElem? (i := 1010) (by decide +kernel), List.mem_of_getElem? (i := 1444) (by decide +kernel), List.mem_of_getElem? (i := 1445) (by decide +kernel)⟩
theorem lw_p54 : lw_okq (⟨"ReservoirMindModel", "must", "(I)V"⟩, 36) := ⟨⟨by decide +kernel, by decide +kernel⟩, List.mem_of_getElem? (i := 1010) (by decide +kernel), List.mem_of_getElem? (i := 1448) (by decide +kernel), List.mem_of_getElem? (i := 1449) (by decide +kernel)⟩
theorem lw_p55 : lw_okq (⟨"ReservoirMindModel", "takes", "(I)Z"⟩, 36) := ⟨⟨by decide +kernel, by decide +kernel⟩, List.mem_of_getElem? (i := 1010) (by decide +kernel), List.mem_of_getElem? (i := 1452) (by decide +kernel), List.mem_of_getElem? (i := 1453) (by decide +kernel)⟩
theorem lw_p56 : lw_okq (⟨"ReservoirMindModel", "isDone", "(I)Z"⟩, 36) := ⟨⟨by decide +kernel, by decide +kernel⟩, List.mem_of_getElem? (i := 1010) (by decide +kernel), List.mem_of_getElem? (i := 1456) (by decide +kernel), List.mem_of_getElem? (i := 1457) (by decide +kernel)⟩
def lw_privs_4 : List (MethodName × Nat) := [(⟨"ReservoirMindModel", "readClause", "(I)V"⟩, 36), (⟨"ReservoirMindModel", "digits", "(II)V"⟩, 36), (⟨"ReservoirMindModel", "digit", "()I"⟩, 36), (⟨"ReservoirMindModel", "isDigit", "()Z"⟩, 36), (⟨"ReservoirMindModel", "wrong", "()V"⟩, 36), (⟨"ReservoirMindModel", "twoDigits", "()I"⟩, 36), (⟨"ReservoirMindModel", "must", "(I)V"⟩, 36), (⟨"ReservoirMindModel", "takes", "(I)Z"⟩, 36), (⟨"ReservoirMindModel", "isDone", "(I)Z"⟩, 36)]
theorem lw_r4 : ∀ q ∈ lw_privs_4, lw_okq q := List.forall_mem_cons.mpr ⟨lw_p48, List.forall_mem_cons.mpr ⟨lw_p49, List.forall_mem_cons.mpr ⟨lw_p50, List.forall_mem_cons.mpr ⟨lw_p51, List.forall_mem_cons.mpr ⟨lw_p52, List.forall_mem_cons.mpr ⟨lw_p53, List.forall_mem_cons.mpr ⟨lw_p54, List.forall_mem_cons.mpr ⟨lw_p55, List.forall_mem_cons.mpr ⟨lw_p56, fun _ h => absurd h List.not_mem_nil⟩⟩⟩⟩⟩⟩⟩⟩⟩
def lw_privs : List (MethodName × Nat) := lw_privs_1 ++ (lw_privs_2 ++ (lw_privs_3 ++ (lw_privs_4)))
def lw_tbl : List Cond := k2_sels lw_privs ++ tables_1
theorem lw_privs_ok : ∀ q ∈ lw_privs, lw_okq q := by
  show ∀ q ∈ lw_privs_1 ++ (lw_privs_2 ++ (lw_privs_3 ++ (lw_privs_4))), lw_okq q
  exact List.forall_mem_append.mpr ⟨lw_r1, List.forall_mem_append.mpr ⟨lw_r2, List.forall_mem_append.mpr ⟨lw_r3, lw_r4⟩⟩⟩
/-- the streams that the claim lets the run draw from -/
abbrev lw_cs : List Choice := [Jvm.Choice.named "NaN.bits"]
theorem lw_bits : nanBits ∈ lw_cs := by first | decide | exact List.mem_cons_self | simp [lw_cs, nanBits]
def RX0 : String := "ReservoirMind$Basin"
def TX0 : u_T := fun k => match k with
  | 0 => ("ReservoirMind$Basin", "cap", "I", false)
  | 1 => ("ReservoirMind$Basin", "horizon", "I", false)
  | 2 => ("ReservoirMind$Basin", "harm", "I", false)
  | 3 => ("ReservoirMind$Basin", "left", "I", false)
  | 4 => ("ReservoirMind$Basin", "inflows", "[I", true)
  | 5 => ("ReservoirMind$Basin", "parts", "[I", true)
  | 6 => ("ReservoirMind$Basin", "dries", "[I", true)
  | 7 => ("ReservoirMind$Basin", "floods", "[I", true)
  | 8 => ("ReservoirMind$Basin", "demands", "[LReservoirMind$Demand;", true)
  | 9 => ("ReservoirMind$Basin", "byRank", "[I", true)
  | _ => ("ReservoirMind$Basin", "size", "I", false)
def tyX0 : Nat → FieldType := fun k => match k with
  | 0 => .int
  | 1 => .int
  | 2 => .int
  | 3 => .int
  | 4 => .array .int
  | 5 => .array .int
  | 6 => .array .int
  | 7 => .array .int
  | 8 => .array (.object "ReservoirMind$Demand")
  | 9 => .array .int
  | _ => .int
theorem nmX0 : ∀ a, a < 11 → ∀ b, b < 11 → a ≠ b → (TX0 a).2.1 ≠ (TX0 b).2.1 := by decide +kernel
theorem tyX0_ok : ∀ k, k < 11 → parseFieldDescriptor (TX0 k).2.2.1 = some (tyX0 k) := by decide +kernel
abbrev cX0_init : ByteArray := prog_2_method_1_code
def yX0_init : MethodName := ⟨RX0, "<init>", "()V"⟩
abbrev cX0_copyFrom : ByteArray := prog_2_method_2_code
def yX0_copyFrom : MethodName := ⟨RX0, "copyFrom", "(LReservoirMind$Basin;)V"⟩
abbrev cX0_settingOf : ByteArray := prog_2_method_3_code
def yX0_settingOf : MethodName := ⟨RX0, "settingOf", "(I)I"⟩
abbrev cX0_changeSetting : ByteArray := prog_2_method_4_code
def yX0_changeSetting : MethodName := ⟨RX0, "changeSetting", "(II)I"⟩
abbrev cX0_changeInflow : ByteArray := prog_2_method_5_code
def yX0_changeInflow : MethodName := ⟨RX0, "changeInflow", "(III)I"⟩
abbrev cX0_changePart : ByteArray := prog_2_method_6_code
def yX0_changePart : MethodName := ⟨RX0, "changePart", "(III)I"⟩
abbrev cX0_changeParts : ByteArray := prog_2_method_7_code
def yX0_changeParts : MethodName := ⟨RX0, "changeParts", "(IIII)Z"⟩
abbrev cX0_changeMonth : ByteArray := prog_2_method_8_code
def yX0_changeMonth : MethodName := ⟨RX0, "changeMonth", "(III)I"⟩
abbrev cX0_addDemand : ByteArray := prog_2_method_9_code
def yX0_addDemand : MethodName := ⟨RX0, "addDemand", "(IIIIII)I"⟩
abbrev cX0_isFit : ByteArray := prog_2_method_10_code
def yX0_isFit : MethodName := ⟨RX0, "isFit", "(II)Z"⟩
abbrev cX0_changeDemand : ByteArray := prog_2_method_11_code
def yX0_changeDemand : MethodName := ⟨RX0, "changeDemand", "(III)I"⟩
abbrev cX0_removeDemand : ByteArray := prog_2_method_12_code
def yX0_removeDemand : MethodName := ⟨RX0, "removeDemand", "(I)I"⟩
abbrev cX0_silence : ByteArray := prog_2_method_13_code
def yX0_silence : MethodName := ⟨RX0, "silence", "(I)V"⟩
abbrev cX0_goByPlan : ByteArray := prog_2_method_14_code
def yX0_goByPlan : MethodName := ⟨RX0, "goByPlan", "(II)V"⟩
abbrev cX0_learnParts : ByteArray := prog_2_method_15_code
def yX0_learnParts : MethodName := ⟨RX0, "learnParts", "(LReservoirMind$Lines;)V"⟩
abbrev cX0_hasDemand : ByteArray := prog_2_method_16_code
def yX0_hasDemand : MethodName := ⟨RX0, "hasDemand", "(I)Z"⟩
abbrev cX0_isAhead : ByteArray := prog_2_method_17_code
def yX0_isAhead : MethodName := ⟨RX0, "isAhead", "(II)Z"⟩
abbrev cX0_inflowIn : ByteArray := prog_2_method_18_code
def yX0_inflowIn : MethodName := ⟨RX0, "inflowIn", "(II)I"⟩
abbrev cX0_allPartsFrom : ByteArray := prog_2_method_19_code
def yX0_allPartsFrom : MethodName := ⟨RX0, "allPartsFrom", "(I)I"⟩
abbrev cX0_nearestState : ByteArray := prog_2_method_20_code
def yX0_nearestState : MethodName := ⟨RX0, "nearestState", "(II)I"⟩
abbrev cX0_topOf : ByteArray := prog_2_method_21_code
def yX0_topOf : MethodName := ⟨RX0, "topOf", "(I)I"⟩
abbrev cX0_driedIn : ByteArray := prog_2_method_22_code
def yX0_driedIn : MethodName := ⟨RX0, "driedIn", "(II)I"⟩
abbrev cX0_placeByRank : ByteArray := prog_2_method_23_code
def yX0_placeByRank : MethodName := ⟨RX0, "placeByRank", "(I)I"⟩
abbrev cX0_sortByRank : ByteArray := prog_2_method_24_code
def yX0_sortByRank : MethodName := ⟨RX0, "sortByRank", "()V"⟩
abbrev cX0_gotBy : ByteArray := prog_2_method_25_code
def yX0_gotBy : MethodName := ⟨RX0, "gotBy", "(III)I"⟩
abbrev cX0_gainsOf : ByteArray := prog_2_method_26_code
def yX0_gainsOf : MethodName := ⟨RX0, "gainsOf", "(II)I"⟩
def RX1 : String := "ReservoirMind$BestRows"
def TX1 : u_T := fun k => match k with
  | 0 => ("ReservoirMind$BestRows", "bests", "[F", true)
  | 1 => ("ReservoirMind$BestRows", "means", "[F", true)
  | 2 => ("ReservoirMind$BestRows", "releases", "[I", true)
  | _ => ("ReservoirMind$BestRows", "gains", "[I", true)
def tyX1 : Nat → FieldType := fun k => match k with
  | 0 => .array .float
  | 1 => .array .float
  | 2 => .array .int
  | _ => .array .int
theorem nmX1 : ∀ a, a < 4 → ∀ b, b < 4 → a ≠ b → (TX1 a).2.1 ≠ (TX1 b).2.1 := by decide +kernel
theorem tyX1_ok : ∀ k, k < 4 → parseFieldDescriptor (TX1 k).2.2.1 = some (tyX1 k) := by decide +kernel
abbrev cX1_init : ByteArray := prog_3_method_1_code
def yX1_init : MethodName := ⟨RX1, "<init>", "()V"⟩
abbrev cX1_spot : ByteArray := prog_3_method_2_code
def yX1_spot : MethodName := ⟨RX1, "spot", "(III)I"⟩
abbrev cX1_bestAt : ByteArray := prog_3_method_3_code
def yX1_bestAt : MethodName := ⟨RX1, "bestAt", "(III)F"⟩
abbrev cX1_releaseAt : ByteArray := prog_3_method_4_code
def yX1_releaseAt : MethodName := ⟨RX1, "releaseAt", "(III)I"⟩
abbrev cX1_comesTo : ByteArray := prog_3_method_5_code
def yX1_comesTo : MethodName := ⟨RX1, "comesTo", "(LReservoirMind$Basin;IIII)F"⟩
abbrev cX1_fillGains : ByteArray := prog_3_method_6_code
def yX1_fillGains : MethodName := ⟨RX1, "fillGains", "(LReservoirMind$Basin;I)V"⟩
abbrev cX1_sweep : ByteArray := prog_3_method_7_code
def yX1_sweep : MethodName := ⟨RX1, "sweep", "(LReservoirMind$Basin;I)V"⟩
abbrev cX1_fillMeans : ByteArray := prog_3_method_8_code
def yX1_fillMeans : MethodName := ⟨RX1, "fillMeans", "(LReservoirMind$Basin;I)V"⟩
abbrev cX1_choose : ByteArray := prog_3_method_9_code
def yX1_choose : MethodName := ⟨RX1, "choose", "(LReservoirMind$Basin;III)V"⟩
abbrev cX1_valueOf : ByteArray := prog_3_method_10_code
def yX1_valueOf : MethodName := ⟨RX1, "valueOf", "(LReservoirMind$Basin;IIII)F"⟩
def RX2 : String := "ReservoirMind$Chain"
def TX2 : u_T := fun k => match k with
  | 0 => ("ReservoirMind$Chain", "odds", "[F", true)
  | 1 => ("ReservoirMind$Chain", "being", "[F", false)
  | 2 => ("ReservoirMind$Chain", "coming", "[F", false)
  | 3 => ("ReservoirMind$Chain", "trail", "[I", true)
  | 4 => ("ReservoirMind$Chain", "chances", "[F", true)
  | 5 => ("ReservoirMind$Chain", "likeliest", "[I", true)
  | _ => ("ReservoirMind$Chain", "greatest", "F", false)
def tyX2 : Nat → FieldType := fun k => match k with
  | 0 => .array .float
  | 1 => .array .float
  | 2 => .array .float
  | 3 => .array .int
  | 4 => .array .float
  | 5 => .array .int
  | _ => .float
theorem nmX2 : ∀ a, a < 7 → ∀ b, b < 7 → a ≠ b → (TX2 a).2.1 ≠ (TX2 b).2.1 := by decide +kernel
theorem tyX2_ok : ∀ k, k < 7 → parseFieldDescriptor (TX2 k).2.2.1 = some (tyX2 k) := by decide +kernel
abbrev cX2_init : ByteArray := prog_4_method_1_code
def yX2_init : MethodName := ⟨RX2, "<init>", "()V"⟩
abbrev cX2_load : ByteArray := prog_4_method_2_code
def yX2_load : MethodName := ⟨RX2, "load", "(LReservoirMind$Basin;)V"⟩
abbrev cX2_oddsAfter : ByteArray := prog_4_method_3_code
def yX2_oddsAfter : MethodName := ⟨RX2, "oddsAfter", "(III)F"⟩
abbrev cX2_findLikeliest : ByteArray := prog_4_method_4_code
def yX2_findLikeliest : MethodName := ⟨RX2, "findLikeliest", "(II)V"⟩
abbrev cX2_weighFrom : ByteArray := prog_4_method_5_code
def yX2_weighFrom : MethodName := ⟨RX2, "weighFrom", "(II)I"⟩
abbrev cX2_turnOn : ByteArray := prog_4_method_6_code
def yX2_turnOn : MethodName := ⟨RX2, "turnOn", "(I)I"⟩
def RX3 : String := "ReservoirMind$Clauses"
def TX3 : u_T := fun k => match k with
  | 0 => ("ReservoirMind$Clauses", "values", "[I", true)
  | 1 => ("ReservoirMind$Clauses", "size", "I", false)
  | _ => ("ReservoirMind$Clauses", "place", "I", false)
def tyX3 : Nat → FieldType := fun k => match k with
  | 0 => .array .int
  | 1 => .int
  | _ => .int
theorem nmX3 : ∀ a, a < 3 → ∀ b, b < 3 → a ≠ b → (TX3 a).2.1 ≠ (TX3 b).2.1 := by decide +kernel
theorem tyX3_ok : ∀ k, k < 3 → parseFieldDescriptor (TX3 k).2.2.1 = some (tyX3 k) := by decide +kernel
abbrev cX3_init : ByteArray := prog_5_method_1_code
def yX3_init : MethodName := ⟨RX3, "<init>", "()V"⟩
abbrev cX3_takeAll : ByteArray := prog_5_method_2_code
def yX3_takeAll : MethodName := ⟨RX3, "takeAll", "(LReservoirMind$Lines;)I"⟩
abbrev cX3_formOf : ByteArray := prog_5_method_3_code
def yX3_formOf : MethodName := ⟨RX3, "formOf", "(I)Ljava/lang/String;"⟩
abbrev cX3_takeClause : ByteArray := prog_5_method_4_code
def yX3_takeClause : MethodName := ⟨RX3, "takeClause", "(LReservoirMind$Lines;)Z"⟩
abbrev cX3_takeNumber : ByteArray := prog_5_method_5_code
def yX3_takeNumber : MethodName := ⟨RX3, "takeNumber", "(LReservoirMind$Lines;ZI)Z"⟩
abbrev cX3_isDigit : ByteArray := prog_5_method_6_code
def yX3_isDigit : MethodName := ⟨RX3, "isDigit", "(I)Z"⟩
abbrev cX3_doAll : ByteArray := prog_5_method_7_code
def yX3_doAll : MethodName := ⟨RX3, "doAll", "(LReservoirMind$Basin;)I"⟩
abbrev cX3_isDone : ByteArray := prog_5_method_8_code
def yX3_isDone : MethodName := ⟨RX3, "isDone", "(LReservoirMind$Basin;I)Z"⟩
def RX4 : String := "ReservoirMind$Course"
def TX4 : u_T := fun k => match k with
  | 0 => ("ReservoirMind$Course", "passage", "LReservoirMind$Passage;", true)
  | 1 => ("ReservoirMind$Course", "stores", "[I", true)
  | 2 => ("ReservoirMind$Course", "releases", "[I", true)
  | 3 => ("ReservoirMind$Course", "months", "I", false)
  | 4 => ("ReservoirMind$Course", "yielded", "I", false)
  | 5 => ("ReservoirMind$Course", "spilled", "I", false)
  | 6 => ("ReservoirMind$Course", "dried", "I", false)
  | _ => ("ReservoirMind$Course", "released", "I", false)
def tyX4 : Nat → FieldType := fun k => match k with
  | 0 => .object "ReservoirMind$Passage"
  | 1 => .array .int
  | 2 => .array .int
  | 3 => .int
  | 4 => .int
  | 5 => .int
  | 6 => .int
  | _ => .int
theorem nmX4 : ∀ a, a < 8 → ∀ b, b < 8 → a ≠ b → (TX4 a).2.1 ≠ (TX4 b).2.1 := by decide +kernel
theorem tyX4_ok : ∀ k, k < 8 → parseFieldDescriptor (TX4 k).2.2.1 = some (tyX4 k) := by decide +kernel
abbrev cX4_init : ByteArray := prog_6_method_1_code
def yX4_init : MethodName := ⟨RX4, "<init>", "()V"⟩
abbrev cX4_go : ByteArray := prog_6_method_2_code
def yX4_go : MethodName := ⟨RX4, "go", "(LReservoirMind$Basin;LReservoirMind$BestRows;LReservoirMind$Lines;III)V"⟩
abbrev cX4_bestRelease : ByteArray := prog_6_method_3_code
def yX4_bestRelease : MethodName := ⟨RX4, "bestRelease", "(LReservoirMind$Basin;LReservoirMind$BestRows;III)I"⟩
abbrev cX4_leastStore : ByteArray := prog_6_method_4_code
def yX4_leastStore : MethodName := ⟨RX4, "leastStore", "()I"⟩
abbrev cX4_tell : ByteArray := prog_6_method_5_code
def yX4_tell : MethodName := ⟨RX4, "tell", "(I)J"⟩
abbrev cX4_monthsWanting : ByteArray := prog_6_method_6_code
def yX4_monthsWanting : MethodName := ⟨RX4, "monthsWanting", "(LReservoirMind$Basin;I)I"⟩
abbrev cX4_monthsMet : ByteArray := prog_6_method_7_code
def yX4_monthsMet : MethodName := ⟨RX4, "monthsMet", "(LReservoirMind$Basin;I)I"⟩
def RX5 : String := "ReservoirMind$Demand"
def TX5 : u_T := fun k => match k with
  | 0 => ("ReservoirMind$Demand", "kind", "I", false)
  | 1 => ("ReservoirMind$Demand", "rank", "I", false)
  | 2 => ("ReservoirMind$Demand", "wants", "I", false)
  | 3 => ("ReservoirMind$Demand", "worth", "I", false)
  | 4 => ("ReservoirMind$Demand", "from", "I", false)
  | _ => ("ReservoirMind$Demand", "to", "I", false)
def tyX5 : Nat → FieldType := fun k => match k with
  | 0 => .int
  | 1 => .int
  | 2 => .int
  | 3 => .int
  | 4 => .int
  | _ => .int
theorem nmX5 : ∀ a, a < 6 → ∀ b, b < 6 → a ≠ b → (TX5 a).2.1 ≠ (TX5 b).2.1 := by decide +kernel
theorem tyX5_ok : ∀ k, k < 6 → parseFieldDescriptor (TX5 k).2.2.1 = some (tyX5 k) := by decide +kernel
abbrev cX5_init : ByteArray := prog_7_method_1_code
def yX5_init : MethodName := ⟨RX5, "<init>", "()V"⟩
abbrev cX5_copyFrom : ByteArray := prog_7_method_2_code
def yX5_copyFrom : MethodName := ⟨RX5, "copyFrom", "(LReservoirMind$Demand;)V"⟩
abbrev cX5_tell : ByteArray := prog_7_method_3_code
def yX5_tell : MethodName := ⟨RX5, "tell", "(I)I"⟩
abbrev cX5_wantedIn : ByteArray := prog_7_method_4_code
def yX5_wantedIn : MethodName := ⟨RX5, "wantedIn", "(I)I"⟩
abbrev cX5_gainOf : ByteArray := prog_7_method_5_code
def yX5_gainOf : MethodName := ⟨RX5, "gainOf", "(II)I"⟩
abbrev cX5_trickleOf : ByteArray := prog_7_method_6_code
def yX5_trickleOf : MethodName := ⟨RX5, "trickleOf", "(I)I"⟩
def RX6 : String := "ReservoirMind$Lines"
def TX6 : u_T := fun k => match k with
  | 0 => ("ReservoirMind$Lines", "width", "I", true)
  | 1 => ("ReservoirMind$Lines", "limit", "I", true)
  | 2 => ("ReservoirMind$Lines", "cells", "[I", true)
  | _ => ("ReservoirMind$Lines", "size", "I", false)
def tyX6 : Nat → FieldType := fun k => match k with
  | 0 => .int
  | 1 => .int
  | 2 => .array .int
  | _ => .int
theorem nmX6 : ∀ a, a < 4 → ∀ b, b < 4 → a ≠ b → (TX6 a).2.1 ≠ (TX6 b).2.1 := by decide +kernel
theorem tyX6_ok : ∀ k, k < 4 → parseFieldDescriptor (TX6 k).2.2.1 = some (tyX6 k) := by decide +kernel
abbrev cX6_init : ByteArray := prog_8_method_1_code
def yX6_init : MethodName := ⟨RX6, "<init>", "(II)V"⟩
abbrev cX6_clear : ByteArray := prog_8_method_2_code
def yX6_clear : MethodName := ⟨RX6, "clear", "()I"⟩
abbrev cX6_add : ByteArray := prog_8_method_3_code
def yX6_add : MethodName := ⟨RX6, "add", "(I)I"⟩
abbrev cX6_add_ : ByteArray := prog_8_method_4_code
def yX6_add_ : MethodName := ⟨RX6, "add", "(II)I"⟩
abbrev cX6_add__ : ByteArray := prog_8_method_5_code
def yX6_add__ : MethodName := ⟨RX6, "add", "(III)I"⟩
abbrev cX6_add___ : ByteArray := prog_8_method_6_code
def yX6_add___ : MethodName := ⟨RX6, "add", "(IIII)I"⟩
abbrev cX6_setInLast : ByteArray := prog_8_method_7_code
def yX6_setInLast : MethodName := ⟨RX6, "setInLast", "(II)V"⟩
abbrev cX6_at : ByteArray := prog_8_method_8_code
def yX6_at : MethodName := ⟨RX6, "at", "(II)I"⟩
abbrev cX6_copyFrom : ByteArray := prog_8_method_9_code
def yX6_copyFrom : MethodName := ⟨RX6, "copyFrom", "(LReservoirMind$Lines;)V"⟩
def RX7 : String := "ReservoirMind$Passage"
def TX7 : u_T := fun k => match k with
  | 0 => ("ReservoirMind$Passage", "dried", "I", false)
  | 1 => ("ReservoirMind$Passage", "there", "I", false)
  | 2 => ("ReservoirMind$Passage", "released", "I", false)
  | 3 => ("ReservoirMind$Passage", "spilled", "I", false)
  | 4 => ("ReservoirMind$Passage", "next", "I", false)
  | _ => ("ReservoirMind$Passage", "yielded", "I", false)
def tyX7 : Nat → FieldType := fun k => match k with
  | 0 => .int
  | 1 => .int
  | 2 => .int
  | 3 => .int
  | 4 => .int
  | _ => .int
theorem nmX7 : ∀ a, a < 6 → ∀ b, b < 6 → a ≠ b → (TX7 a).2.1 ≠ (TX7 b).2.1 := by decide +kernel
theorem tyX7_ok : ∀ k, k < 6 → parseFieldDescriptor (TX7 k).2.2.1 = some (tyX7 k) := by decide +kernel
abbrev cX7_init : ByteArray := prog_9_method_1_code
def yX7_init : MethodName := ⟨RX7, "<init>", "()V"⟩
abbrev cX7_go : ByteArray := prog_9_method_2_code
def yX7_go : MethodName := ⟨RX7, "go", "(LReservoirMind$Basin;IIII)V"⟩
abbrev cX7_tell : ByteArray := prog_9_method_3_code
def yX7_tell : MethodName := ⟨RX7, "tell", "(I)J"⟩
def RX8 : String := "ReservoirMind$Setting"
def TX8 : u_T := fun k => match k with
  | 0 => ("ReservoirMind$Setting", "basin", "LReservoirMind$Basin;", true)
  | 1 => ("ReservoirMind$Setting", "seen", "LReservoirMind$Lines;", true)
  | 2 => ("ReservoirMind$Setting", "plan", "LReservoirMind$Lines;", true)
  | _ => ("ReservoirMind$Setting", "book", "LReservoirMind$Lines;", true)
def tyX8 : Nat → FieldType := fun k => match k with
  | 0 => .object "ReservoirMind$Basin"
  | 1 => .object "ReservoirMind$Lines"
  | 2 => .object "ReservoirMind$Lines"
  | _ => .object "ReservoirMind$Lines"
theorem nmX8 : ∀ a, a < 4 → ∀ b, b < 4 → a ≠ b → (TX8 a).2.1 ≠ (TX8 b).2.1 := by decide +kernel
theorem tyX8_ok : ∀ k, k < 4 → parseFieldDescriptor (TX8 k).2.2.1 = some (tyX8 k) := by decide +kernel
abbrev cX8_init : ByteArray := prog_10_method_1_code
def yX8_init : MethodName := ⟨RX8, "<init>", "()V"⟩
abbrev cX8_copyFrom : ByteArray := prog_10_method_2_code
def yX8_copyFrom : MethodName := ⟨RX8, "copyFrom", "(LReservoirMind$Setting;)V"⟩
def RX9 : String := "ReservoirMind$Tape"
def TX9 : u_T := fun k => match k with
  | 0 => ("ReservoirMind$Tape", "sort", "I", false)
  | 1 => ("ReservoirMind$Tape", "size", "I", false)
  | _ => ("ReservoirMind$Tape", "items", "[J", true)
def tyX9 : Nat → FieldType := fun k => match k with
  | 0 => .int
  | 1 => .int
  | _ => .array .long
theorem nmX9 : ∀ a, a < 3 → ∀ b, b < 3 → a ≠ b → (TX9 a).2.1 ≠ (TX9 b).2.1 := by decide +kernel
theorem tyX9_ok : ∀ k, k < 3 → parseFieldDescriptor (TX9 k).2.2.1 = some (tyX9 k) := by decide +kernel
abbrev cX9_init : ByteArray := prog_11_method_1_code
def yX9_init : MethodName := ⟨RX9, "<init>", "()V"⟩
abbrev cX9_become : ByteArray := prog_11_method_2_code
def yX9_become : MethodName := ⟨RX9, "become", "(II)V"⟩
abbrev cX9_hasPlace : ByteArray := prog_11_method_3_code
def yX9_hasPlace : MethodName := ⟨RX9, "hasPlace", "(I)Z"⟩
abbrev cX9_hasRange : ByteArray := prog_11_method_4_code
def yX9_hasRange : MethodName := ⟨RX9, "hasRange", "(II)Z"⟩
abbrev cX9_asItem : ByteArray := prog_11_method_5_code
def yX9_asItem : MethodName := ⟨RX9, "asItem", "(J)J"⟩
def RX10 : String := "ReservoirMind"
def TX10 : u_T := fun k => match k with
  | 0 => ("ReservoirMind", "now", "LReservoirMind$Setting;", true)
  | 1 => ("ReservoirMind", "kept", "LReservoirMind$Setting;", true)
  | 2 => ("ReservoirMind", "isKept", "Z", false)
  | 3 => ("ReservoirMind", "thought", "LReservoirMind$Basin;", true)
  | 4 => ("ReservoirMind", "nowRows", "LReservoirMind$BestRows;", true)
  | 5 => ("ReservoirMind", "thoughtRows", "LReservoirMind$BestRows;", true)
  | 6 => ("ReservoirMind", "nowSolved", "Z", false)
  | 7 => ("ReservoirMind", "fitsFound", "Z", false)
  | 8 => ("ReservoirMind", "fitCount", "I", false)
  | 9 => ("ReservoirMind", "fitLeast", "I", false)
  | 10 => ("ReservoirMind", "chain", "LReservoirMind$Chain;", true)
  | 11 => ("ReservoirMind", "passage", "LReservoirMind$Passage;", true)
  | 12 => ("ReservoirMind", "course", "LReservoirMind$Course;", true)
  | 13 => ("ReservoirMind", "records", "[LReservoirMind$Lines;", true)
  | 14 => ("ReservoirMind", "text", "LReservoirMind$Lines;", true)
  | 15 => ("ReservoirMind", "clauses", "LReservoirMind$Clauses;", true)
  | _ => ("ReservoirMind", "tapes", "[LReservoirMind$Tape;", true)
def tyX10 : Nat → FieldType := fun k => match k with
  | 0 => .object "ReservoirMind$Setting"
  | 1 => .object "ReservoirMind$Setting"
  | 2 => .boolean
  | 3 => .object "ReservoirMind$Basin"
  | 4 => .object "ReservoirMind$BestRows"
  | 5 => .object "ReservoirMind$BestRows"
  | 6 => .boolean
  | 7 => .boolean
  | 8 => .int
  | 9 => .int
  | 10 => .object "ReservoirMind$Chain"
  | 11 => .object "ReservoirMind$Passage"
  | 12 => .object "ReservoirMind$Course"
  | 13 => .array (.object "ReservoirMind$Lines")
  | 14 => .object "ReservoirMind$Lines"
  | 15 => .object "ReservoirMind$Clauses"
  | _ => .array (.object "ReservoirMind$Tape")
theorem nmX10 : ∀ a, a < 17 → ∀ b, b < 17 → a ≠ b → (TX10 a).2.1 ≠ (TX10 b).2.1 := by decide +kernel
theorem tyX10_ok : ∀ k, k < 17 → parseFieldDescriptor (TX10 k).2.2.1 = some (tyX10 k) := by decide +kernel
abbrev cX10_init : ByteArray := prog_1_method_1_code
def yX10_init : MethodName := ⟨RX10, "<init>", "()V"⟩
abbrev cX10_put : ByteArray := prog_1_method_2_code
def yX10_put : MethodName := ⟨RX10, "put", "(II)I"⟩
abbrev cX10_inflow : ByteArray := prog_1_method_3_code
def yX10_inflow : MethodName := ⟨RX10, "inflow", "(III)I"⟩
abbrev cX10_part : ByteArray := prog_1_method_4_code
def yX10_part : MethodName := ⟨RX10, "part", "(III)I"⟩
abbrev cX10_month : ByteArray := prog_1_method_5_code
def yX10_month : MethodName := ⟨RX10, "month", "(III)I"⟩
abbrev cX10_demand : ByteArray := prog_1_method_6_code
def yX10_demand : MethodName := ⟨RX10, "demand", "(IIIIII)I"⟩
abbrev cX10_renew : ByteArray := prog_1_method_7_code
def yX10_renew : MethodName := ⟨RX10, "renew", "(III)I"⟩
abbrev cX10_drop : ByteArray := prog_1_method_8_code
def yX10_drop : MethodName := ⟨RX10, "drop", "(I)I"⟩
abbrev cX10_feed : ByteArray := prog_1_method_9_code
def yX10_feed : MethodName := ⟨RX10, "feed", "(I)I"⟩
abbrev cX10_read : ByteArray := prog_1_method_10_code
def yX10_read : MethodName := ⟨RX10, "read", "()I"⟩
abbrev cX10_told : ByteArray := prog_1_method_11_code
def yX10_told : MethodName := ⟨RX10, "told", "(I)I"⟩
abbrev cX10_monthOf : ByteArray := prog_1_method_12_code
def yX10_monthOf : MethodName := ⟨RX10, "monthOf", "(II)I"⟩
abbrev cX10_partOf : ByteArray := prog_1_method_13_code
def yX10_partOf : MethodName := ⟨RX10, "partOf", "(II)I"⟩
abbrev cX10_demandOf : ByteArray := prog_1_method_14_code
def yX10_demandOf : MethodName := ⟨RX10, "demandOf", "(II)I"⟩
abbrev cX10_taken : ByteArray := prog_1_method_15_code
def yX10_taken : MethodName := ⟨RX10, "taken", "(II)I"⟩
abbrev cX10_wanted : ByteArray := prog_1_method_16_code
def yX10_wanted : MethodName := ⟨RX10, "wanted", "(II)I"⟩
abbrev cX10_served : ByteArray := prog_1_method_17_code
def yX10_served : MethodName := ⟨RX10, "served", "(IIII)J"⟩
abbrev cX10_step : ByteArray := prog_1_method_18_code
def yX10_step : MethodName := ⟨RX10, "step", "(IIIII)J"⟩
abbrev cX10_best : ByteArray := prog_1_method_19_code
def yX10_best : MethodName := ⟨RX10, "best", "(III)J"⟩
abbrev cX10_release : ByteArray := prog_1_method_20_code
def yX10_release : MethodName := ⟨RX10, "release", "(III)I"⟩
abbrev cX10_would : ByteArray := prog_1_method_21_code
def yX10_would : MethodName := ⟨RX10, "would", "(IIII)J"⟩
abbrev cX10_after : ByteArray := prog_1_method_22_code
def yX10_after : MethodName := ⟨RX10, "after", "(III)J"⟩
abbrev cX10_way : ByteArray := prog_1_method_23_code
def yX10_way : MethodName := ⟨RX10, "way", "(III)I"⟩
abbrev cX10_chance : ByteArray := prog_1_method_24_code
def yX10_chance : MethodName := ⟨RX10, "chance", "(II)J"⟩
abbrev cX10_worth : ByteArray := prog_1_method_25_code
def yX10_worth : MethodName := ⟨RX10, "worth", "(IIII)J"⟩
abbrev cX10_record : ByteArray := prog_1_method_26_code
def yX10_record : MethodName := ⟨RX10, "record", "(II)I"⟩
abbrev cX10_replay : ByteArray := prog_1_method_27_code
def yX10_replay : MethodName := ⟨RX10, "replay", "(IIIII)J"⟩
abbrev cX10_sure : ByteArray := prog_1_method_28_code
def yX10_sure : MethodName := ⟨RX10, "sure", "(IIIII)J"⟩
abbrev cX10_learn : ByteArray := prog_1_method_29_code
def yX10_learn : MethodName := ⟨RX10, "learn", "(I)I"⟩
abbrev cX10_see : ByteArray := prog_1_method_30_code
def yX10_see : MethodName := ⟨RX10, "see", "(IIII)I"⟩
abbrev cX10_fits : ByteArray := prog_1_method_31_code
def yX10_fits : MethodName := ⟨RX10, "fits", "(I)I"⟩
abbrev cX10_plan : ByteArray := prog_1_method_32_code
def yX10_plan : MethodName := ⟨RX10, "plan", "(II)I"⟩
abbrev cX10_ends : ByteArray := prog_1_method_33_code
def yX10_ends : MethodName := ⟨RX10, "ends", "(II)J"⟩
abbrev cX10_book : ByteArray := prog_1_method_34_code
def yX10_book : MethodName := ⟨RX10, "book", "(III)I"⟩
abbrev cX10_looked : ByteArray := prog_1_method_35_code
def yX10_looked : MethodName := ⟨RX10, "looked", "()I"⟩
abbrev cX10_judge : ByteArray := prog_1_method_36_code
def yX10_judge : MethodName := ⟨RX10, "judge", "(IIIII)I"⟩
abbrev cX10_image : ByteArray := prog_1_method_37_code
def yX10_image : MethodName := ⟨RX10, "image", "()I"⟩
abbrev cX10_undo : ByteArray := prog_1_method_38_code
def yX10_undo : MethodName := ⟨RX10, "undo", "()I"⟩
abbrev cX10_count : ByteArray := prog_1_method_39_code
def yX10_count : MethodName := ⟨RX10, "count", "(I)I"⟩
abbrev cX10_tape : ByteArray := prog_1_method_40_code
def yX10_tape : MethodName := ⟨RX10, "tape", "(III)I"⟩
abbrev cX10_item : ByteArray := prog_1_method_41_code
def yX10_item : MethodName := ⟨RX10, "item", "(IIJ)I"⟩
abbrev cX10_peek : ByteArray := prog_1_method_42_code
def yX10_peek : MethodName := ⟨RX10, "peek", "(II)J"⟩
abbrev cX10_shift : ByteArray := prog_1_method_43_code
def yX10_shift : MethodName := ⟨RX10, "shift", "(IIIII)I"⟩
abbrev cX10_within : ByteArray := prog_1_method_44_code
def yX10_within : MethodName := ⟨RX10, "within", "(III)Z"⟩
abbrev cX10_isState : ByteArray := prog_1_method_45_code
def yX10_isState : MethodName := ⟨RX10, "isState", "(I)Z"⟩
abbrev cX10_isTape : ByteArray := prog_1_method_46_code
def yX10_isTape : MethodName := ⟨RX10, "isTape", "(I)Z"⟩
abbrev cX10_isStore : ByteArray := prog_1_method_47_code
def yX10_isStore : MethodName := ⟨RX10, "isStore", "(I)Z"⟩
abbrev cX10_canReplay : ByteArray := prog_1_method_48_code
def yX10_canReplay : MethodName := ⟨RX10, "canReplay", "(III)Z"⟩
abbrev cX10_canBeWorth : ByteArray := prog_1_method_49_code
def yX10_canBeWorth : MethodName := ⟨RX10, "canBeWorth", "(II)Z"⟩
abbrev cX10_isUnder : ByteArray := prog_1_method_50_code
def yX10_isUnder : MethodName := ⟨RX10, "isUnder", "(II)Z"⟩
abbrev cX10_forgetFound : ByteArray := prog_1_method_51_code
def yX10_forgetFound : MethodName := ⟨RX10, "forgetFound", "()V"⟩
abbrev cX10_solveNow : ByteArray := prog_1_method_52_code
def yX10_solveNow : MethodName := ⟨RX10, "solveNow", "()V"⟩
abbrev cX10_solveThought : ByteArray := prog_1_method_53_code
def yX10_solveThought : MethodName := ⟨RX10, "solveThought", "()V"⟩
abbrev cX10_goThrough : ByteArray := prog_1_method_54_code
def yX10_goThrough : MethodName := ⟨RX10, "goThrough", "(IIII)V"⟩
abbrev cX10_findFits : ByteArray := prog_1_method_55_code
def yX10_findFits : MethodName := ⟨RX10, "findFits", "()V"⟩
abbrev cX10_goesAsSeen : ByteArray := prog_1_method_56_code
def yX10_goesAsSeen : MethodName := ⟨RX10, "goesAsSeen", "(LReservoirMind$BestRows;)Z"⟩
abbrev cX10_commonDivisor : ByteArray := prog_1_method_57_code
def yX10_commonDivisor : MethodName := ⟨RX10, "commonDivisor", "(II)I"⟩
abbrev cX10_bitsOf : ByteArray := prog_1_method_58_code
def yX10_bitsOf : MethodName := ⟨RX10, "bitsOf", "(F)I"⟩
def RX11 : String := "ReservoirMindModel"
def TX11 : u_T := fun k => match k with
  | 0 => ("ReservoirMindModel", "g", "[I", true)
  | 1 => ("ReservoirMindModel", "kept", "[I", true)
  | 2 => ("ReservoirMindModel", "isKept", "Z", false)
  | 3 => ("ReservoirMindModel", "without", "I", false)
  | 4 => ("ReservoirMindModel", "recordMany", "[I", true)
  | 5 => ("ReservoirMindModel", "records", "[I", true)
  | 6 => ("ReservoirMindModel", "best", "[F", true)
  | 7 => ("ReservoirMindModel", "release", "[I", true)
  | 8 => ("ReservoirMindModel", "got", "[I", true)
  | 9 => ("ReservoirMindModel", "line", "[I", true)
  | 10 => ("ReservoirMindModel", "dried", "I", false)
  | 11 => ("ReservoirMindModel", "there", "I", false)
  | 12 => ("ReservoirMindModel", "released", "I", false)
  | 13 => ("ReservoirMindModel", "spilled", "I", false)
  | 14 => ("ReservoirMindModel", "next", "I", false)
  | 15 => ("ReservoirMindModel", "yield", "I", false)
  | 16 => ("ReservoirMindModel", "odds", "[F", true)
  | 17 => ("ReservoirMindModel", "chance", "F", false)
  | 18 => ("ReservoirMindModel", "way", "I", false)
  | 19 => ("ReservoirMindModel", "sumYield", "I", false)
  | 20 => ("ReservoirMindModel", "sumSpilled", "I", false)
  | 21 => ("ReservoirMindModel", "sumDried", "I", false)
  | 22 => ("ReservoirMindModel", "sumReleased", "I", false)
  | 23 => ("ReservoirMindModel", "leastStore", "I", false)
  | 24 => ("ReservoirMindModel", "stores", "[I", true)
  | 25 => ("ReservoirMindModel", "sureOf", "I", false)
  | 26 => ("ReservoirMindModel", "sureAll", "I", false)
  | 27 => ("ReservoirMindModel", "before", "[I", true)
  | 28 => ("ReservoirMindModel", "text", "[B", true)
  | 29 => ("ReservoirMindModel", "textMany", "I", false)
  | 30 => ("ReservoirMindModel", "spot", "I", false)
  | 31 => ("ReservoirMindModel", "fault", "I", false)
  | 32 => ("ReservoirMindModel", "clause", "[I", true)
  | 33 => ("ReservoirMindModel", "sorts", "[I", true)
  | 34 => ("ReservoirMindModel", "sizes", "[I", true)
  | _ => ("ReservoirMindModel", "items", "[J", true)
def tyX11 : Nat → FieldType := fun k => match k with
  | 0 => .array .int
  | 1 => .array .int
  | 2 => .boolean
  | 3 => .int
  | 4 => .array .int
  | 5 => .array .int
  | 6 => .array .float
  | 7 => .array .int
  | 8 => .array .int
  | 9 => .array .int
  | 10 => .int
  | 11 => .int
  | 12 => .int
  | 13 => .int
  | 14 => .int
  | 15 => .int
  | 16 => .array .float
  | 17 => .float
  | 18 => .int
  | 19 => .int
  | 20 => .int
  | 21 => .int
  | 22 => .int
  | 23 => .int
  | 24 => .array .int
  | 25 => .int
  | 26 => .int
  | 27 => .array .int
  | 28 => .array .byte
  | 29 => .int
  | 30 => .int
  | 31 => .int
  | 32 => .array .int
  | 33 => .array .int
  | 34 => .array .int
  | _ => .array .long
theorem nmX11 : ∀ a, a < 36 → ∀ b, b < 36 → a ≠ b → (TX11 a).2.1 ≠ (TX11 b).2.1 := by decide +kernel
theorem tyX11_ok : ∀ k, k < 36 → parseFieldDescriptor (TX11 k).2.2.1 = some (tyX11 k) := by decide +kernel
abbrev cX11_init : ByteArray := prog_13_method_1_code
def yX11_init : MethodName := ⟨RX11, "<init>", "()V"⟩
abbrev cX11_in : ByteArray := prog_13_method_2_code
def yX11_in : MethodName := ⟨RX11, "in", "(JJJ)Z"⟩
abbrev cX11_isMonth : ByteArray := prog_13_method_3_code
def yX11_isMonth : MethodName := ⟨RX11, "isMonth", "(I)Z"⟩
abbrev cX11_isState : ByteArray := prog_13_method_4_code
def yX11_isState : MethodName := ⟨RX11, "isState", "(I)Z"⟩
abbrev cX11_isStore : ByteArray := prog_13_method_5_code
def yX11_isStore : MethodName := ⟨RX11, "isStore", "(I)Z"⟩
abbrev cX11_isAhead : ByteArray := prog_13_method_6_code
def yX11_isAhead : MethodName := ⟨RX11, "isAhead", "(I)Z"⟩
abbrev cX11_isDemand : ByteArray := prog_13_method_7_code
def yX11_isDemand : MethodName := ⟨RX11, "isDemand", "(I)Z"⟩
abbrev cX11_becomes : ByteArray := prog_13_method_8_code
def yX11_becomes : MethodName := ⟨RX11, "becomes", "(II)I"⟩
abbrev cX11_put : ByteArray := prog_13_method_9_code
def yX11_put : MethodName := ⟨RX11, "put", "(II)I"⟩
abbrev cX11_inflow : ByteArray := prog_13_method_10_code
def yX11_inflow : MethodName := ⟨RX11, "inflow", "(III)I"⟩
abbrev cX11_part : ByteArray := prog_13_method_11_code
def yX11_part : MethodName := ⟨RX11, "part", "(II)I"⟩
abbrev cX11_parts : ByteArray := prog_13_method_12_code
def yX11_parts : MethodName := ⟨RX11, "parts", "(I)I"⟩
abbrev cX11_part_ : ByteArray := prog_13_method_13_code
def yX11_part_ : MethodName := ⟨RX11, "part", "(III)I"⟩
abbrev cX11_month : ByteArray := prog_13_method_14_code
def yX11_month : MethodName := ⟨RX11, "month", "(III)I"⟩
abbrev cX11_at : ByteArray := prog_13_method_15_code
def yX11_at : MethodName := ⟨RX11, "at", "(II)I"⟩
abbrev cX11_demand : ByteArray := prog_13_method_16_code
def yX11_demand : MethodName := ⟨RX11, "demand", "(IIIIII)I"⟩
abbrev cX11_renew : ByteArray := prog_13_method_17_code
def yX11_renew : MethodName := ⟨RX11, "renew", "(III)I"⟩
abbrev cX11_drop : ByteArray := prog_13_method_18_code
def yX11_drop : MethodName := ⟨RX11, "drop", "(I)I"⟩
abbrev cX11_told : ByteArray := prog_13_method_19_code
def yX11_told : MethodName := ⟨RX11, "told", "(I)I"⟩
abbrev cX11_top : ByteArray := prog_13_method_20_code
def yX11_top : MethodName := ⟨RX11, "top", "(I)I"⟩
abbrev cX11_monthOf : ByteArray := prog_13_method_21_code
def yX11_monthOf : MethodName := ⟨RX11, "monthOf", "(II)I"⟩
abbrev cX11_partOf : ByteArray := prog_13_method_22_code
def yX11_partOf : MethodName := ⟨RX11, "partOf", "(II)I"⟩
abbrev cX11_isServedAhead : ByteArray := prog_13_method_23_code
def yX11_isServedAhead : MethodName := ⟨RX11, "isServedAhead", "(II)Z"⟩
abbrev cX11_byRank : ByteArray := prog_13_method_24_code
def yX11_byRank : MethodName := ⟨RX11, "byRank", "(I)I"⟩
abbrev cX11_rankOf : ByteArray := prog_13_method_25_code
def yX11_rankOf : MethodName := ⟨RX11, "rankOf", "(I)I"⟩
abbrev cX11_demandOf : ByteArray := prog_13_method_26_code
def yX11_demandOf : MethodName := ⟨RX11, "demandOf", "(II)I"⟩
abbrev cX11_taken : ByteArray := prog_13_method_27_code
def yX11_taken : MethodName := ⟨RX11, "taken", "(II)I"⟩
abbrev cX11_wants : ByteArray := prog_13_method_28_code
def yX11_wants : MethodName := ⟨RX11, "wants", "(II)I"⟩
abbrev cX11_wanted : ByteArray := prog_13_method_29_code
def yX11_wanted : MethodName := ⟨RX11, "wanted", "(II)I"⟩
abbrev cX11_gain : ByteArray := prog_13_method_30_code
def yX11_gain : MethodName := ⟨RX11, "gain", "(III)I"⟩
abbrev cX11_ranks : ByteArray := prog_13_method_31_code
def yX11_ranks : MethodName := ⟨RX11, "ranks", "()V"⟩
abbrev cX11_serves : ByteArray := prog_13_method_32_code
def yX11_serves : MethodName := ⟨RX11, "serves", "(II)I"⟩
abbrev cX11_served : ByteArray := prog_13_method_33_code
def yX11_served : MethodName := ⟨RX11, "served", "(IIII)J"⟩
abbrev cX11_goes : ByteArray := prog_13_method_34_code
def yX11_goes : MethodName := ⟨RX11, "goes", "(IIII)V"⟩
abbrev cX11_step : ByteArray := prog_13_method_35_code
def yX11_step : MethodName := ⟨RX11, "step", "(IIIII)J"⟩
abbrev cX11_place : ByteArray := prog_13_method_36_code
def yX11_place : MethodName := ⟨RX11, "place", "(III)I"⟩
abbrev cX11_mean : ByteArray := prog_13_method_37_code
def yX11_mean : MethodName := ⟨RX11, "mean", "(III)F"⟩
abbrev cX11_comesTo : ByteArray := prog_13_method_38_code
def yX11_comesTo : MethodName := ⟨RX11, "comesTo", "(IIII)F"⟩
abbrev cX11_finds : ByteArray := prog_13_method_39_code
def yX11_finds : MethodName := ⟨RX11, "finds", "(I)V"⟩
abbrev cX11_findsOne : ByteArray := prog_13_method_40_code
def yX11_findsOne : MethodName := ⟨RX11, "findsOne", "(III)V"⟩
abbrev cX11_bits : ByteArray := prog_13_method_41_code
def yX11_bits : MethodName := ⟨RX11, "bits", "(F)J"⟩
abbrev cX11_best : ByteArray := prog_13_method_42_code
def yX11_best : MethodName := ⟨RX11, "best", "(III)J"⟩
abbrev cX11_release : ByteArray := prog_13_method_43_code
def yX11_release : MethodName := ⟨RX11, "release", "(III)I"⟩
abbrev cX11_would : ByteArray := prog_13_method_44_code
def yX11_would : MethodName := ⟨RX11, "would", "(IIII)J"⟩
abbrev cX11_after : ByteArray := prog_13_method_45_code
def yX11_after : MethodName := ⟨RX11, "after", "(III)J"⟩
abbrev cX11_findWay : ByteArray := prog_13_method_46_code
def yX11_findWay : MethodName := ⟨RX11, "findWay", "(II)V"⟩
abbrev cX11_stateOf : ByteArray := prog_13_method_47_code
def yX11_stateOf : MethodName := ⟨RX11, "stateOf", "(III)I"⟩
abbrev cX11_way : ByteArray := prog_13_method_48_code
def yX11_way : MethodName := ⟨RX11, "way", "(III)I"⟩
abbrev cX11_chance : ByteArray := prog_13_method_49_code
def yX11_chance : MethodName := ⟨RX11, "chance", "(II)J"⟩
abbrev cX11_bestNow : ByteArray := prog_13_method_50_code
def yX11_bestNow : MethodName := ⟨RX11, "bestNow", "(II)F"⟩
abbrev cX11_worth : ByteArray := prog_13_method_51_code
def yX11_worth : MethodName := ⟨RX11, "worth", "(IIII)J"⟩
abbrev cX11_isRecord : ByteArray := prog_13_method_52_code
def yX11_isRecord : MethodName := ⟨RX11, "isRecord", "(I)Z"⟩
abbrev cX11_record : ByteArray := prog_13_method_53_code
def yX11_record : MethodName := ⟨RX11, "record", "(II)I"⟩
abbrev cX11_nearest : ByteArray := prog_13_method_54_code
def yX11_nearest : MethodName := ⟨RX11, "nearest", "(II)I"⟩
abbrev cX11_isReplay : ByteArray := prog_13_method_55_code
def yX11_isReplay : MethodName := ⟨RX11, "isReplay", "(III)Z"⟩
abbrev cX11_replays : ByteArray := prog_13_method_56_code
def yX11_replays : MethodName := ⟨RX11, "replays", "(IIIII)V"⟩
abbrev cX11_replay : ByteArray := prog_13_method_57_code
def yX11_replay : MethodName := ⟨RX11, "replay", "(IIIII)J"⟩
abbrev cX11_sure : ByteArray := prog_13_method_58_code
def yX11_sure : MethodName := ⟨RX11, "sure", "(IIIII)J"⟩
abbrev cX11_learn : ByteArray := prog_13_method_59_code
def yX11_learn : MethodName := ⟨RX11, "learn", "(I)I"⟩
abbrev cX11_see : ByteArray := prog_13_method_60_code
def yX11_see : MethodName := ⟨RX11, "see", "(IIII)I"⟩
abbrev cX11_isRelease : ByteArray := prog_13_method_61_code
def yX11_isRelease : MethodName := ⟨RX11, "isRelease", "(IIII)Z"⟩
abbrev cX11_isSeen : ByteArray := prog_13_method_62_code
def yX11_isSeen : MethodName := ⟨RX11, "isSeen", "()Z"⟩
abbrev cX11_fits : ByteArray := prog_13_method_63_code
def yX11_fits : MethodName := ⟨RX11, "fits", "(I)I"⟩
abbrev cX11_plan : ByteArray := prog_13_method_64_code
def yX11_plan : MethodName := ⟨RX11, "plan", "(II)I"⟩
abbrev cX11_ends : ByteArray := prog_13_method_65_code
def yX11_ends : MethodName := ⟨RX11, "ends", "(II)J"⟩
abbrev cX11_book : ByteArray := prog_13_method_66_code
def yX11_book : MethodName := ⟨RX11, "book", "(III)I"⟩
abbrev cX11_looked : ByteArray := prog_13_method_67_code
def yX11_looked : MethodName := ⟨RX11, "looked", "()I"⟩
abbrev cX11_feed : ByteArray := prog_13_method_68_code
def yX11_feed : MethodName := ⟨RX11, "feed", "(I)I"⟩
abbrev cX11_isDigit : ByteArray := prog_13_method_69_code
def yX11_isDigit : MethodName := ⟨RX11, "isDigit", "()Z"⟩
abbrev cX11_wrong : ByteArray := prog_13_method_70_code
def yX11_wrong : MethodName := ⟨RX11, "wrong", "()V"⟩
abbrev cX11_digit : ByteArray := prog_13_method_71_code
def yX11_digit : MethodName := ⟨RX11, "digit", "()I"⟩
abbrev cX11_twoDigits : ByteArray := prog_13_method_72_code
def yX11_twoDigits : MethodName := ⟨RX11, "twoDigits", "()I"⟩
abbrev cX11_takes : ByteArray := prog_13_method_73_code
def yX11_takes : MethodName := ⟨RX11, "takes", "(I)Z"⟩
abbrev cX11_must : ByteArray := prog_13_method_74_code
def yX11_must : MethodName := ⟨RX11, "must", "(I)V"⟩
abbrev cX11_digits : ByteArray := prog_13_method_75_code
def yX11_digits : MethodName := ⟨RX11, "digits", "(II)V"⟩
abbrev cX11_readClause : ByteArray := prog_13_method_76_code
def yX11_readClause : MethodName := ⟨RX11, "readClause", "(I)V"⟩
abbrev cX11_isDone : ByteArray := prog_13_method_77_code
def yX11_isDone : MethodName := ⟨RX11, "isDone", "(I)Z"⟩
abbrev cX11_read : ByteArray := prog_13_method_78_code
def yX11_read : MethodName := ⟨RX11, "read", "()I"⟩
abbrev cX11_isTape : ByteArray := prog_13_method_79_code
def yX11_isTape : MethodName := ⟨RX11, "isTape", "(I)Z"⟩
abbrev cX11_judge : ByteArray := prog_13_method_80_code
def yX11_judge : MethodName := ⟨RX11, "judge", "(IIIII)I"⟩
abbrev cX11_lays : ByteArray := prog_13_method_81_code
def yX11_lays : MethodName := ⟨RX11, "lays", "([I[I)V"⟩
abbrev cX11_image : ByteArray := prog_13_method_82_code
def yX11_image : MethodName := ⟨RX11, "image", "()I"⟩
abbrev cX11_undo : ByteArray := prog_13_method_83_code
def yX11_undo : MethodName := ⟨RX11, "undo", "()I"⟩
abbrev cX11_count : ByteArray := prog_13_method_84_code
def yX11_count : MethodName := ⟨RX11, "count", "(I)I"⟩
abbrev cX11_tape : ByteArray := prog_13_method_85_code
def yX11_tape : MethodName := ⟨RX11, "tape", "(III)I"⟩
abbrev cX11_cutTo : ByteArray := prog_13_method_86_code
def yX11_cutTo : MethodName := ⟨RX11, "cutTo", "(IJ)J"⟩
abbrev cX11_item : ByteArray := prog_13_method_87_code
def yX11_item : MethodName := ⟨RX11, "item", "(IIJ)I"⟩
abbrev cX11_peek : ByteArray := prog_13_method_88_code
def yX11_peek : MethodName := ⟨RX11, "peek", "(II)J"⟩
abbrev cX11_shift : ByteArray := prog_13_method_89_code
def yX11_shift : MethodName := ⟨RX11, "shift", "(IIIII)I"⟩
def RJxf58ca : String := "java/lang/Float"
def TJxf58ca : u_T := fun k => match k with
  | _ => ("", "", "", false)
def tyJxf58ca : Nat → FieldType := fun k => match k with
  | _ => .int
theorem nmJxf58ca : ∀ a, a < 0 → ∀ b, b < 0 → a ≠ b → (TJxf58ca a).2.1 ≠ (TJxf58ca b).2.1 := by decide +kernel
theorem tyJxf58ca_ok : ∀ k, k < 0 → parseFieldDescriptor (TJxf58ca k).2.2.1 = some (tyJxf58ca k) := by decide +kernel
abbrev cJxf58ca_isNaN_12338 : ByteArray := prog_14_method_6_code
def yJxf58ca_isNaN_12338 : MethodName := ⟨RJxf58ca, "isNaN", "(F)Z"⟩
abbrev cJxf58ca_floatToIntBits_5c35a : ByteArray := prog_14_method_24_code
def yJxf58ca_floatToIntBits_5c35a : MethodName := ⟨RJxf58ca, "floatToIntBits", "(F)I"⟩
def RJ9 : String := "java/lang/Math"
def TJ9 : u_T := fun k => match k with
  | _ => ("", "", "", false)
def tyJ9 : Nat → FieldType := fun k => match k with
  | _ => .int
theorem nmJ9 : ∀ a, a < 0 → ∀ b, b < 0 → a ≠ b → (TJ9 a).2.1 ≠ (TJ9 b).2.1 := by decide +kernel
theorem tyJ9_ok : ∀ k, k < 0 → parseFieldDescriptor (TJ9 k).2.2.1 = some (tyJ9 k) := by decide +kernel
abbrev cJ9_abs_0f7a4 : ByteArray := prog_15_method_59_code
def yJ9_abs_0f7a4 : MethodName := ⟨RJ9, "abs", "(I)I"⟩
abbrev cJ9_max_7cf53 : ByteArray := prog_15_method_65_code
def yJ9_max_7cf53 : MethodName := ⟨RJ9, "max", "(II)I"⟩
abbrev cJ9_min_7cf53 : ByteArray := prog_15_method_69_code
def yJ9_min_7cf53 : MethodName := ⟨RJ9, "min", "(II)I"⟩
def RJ0 : String := "java/lang/String"
def TJ0 : u_T := fun k => match k with
  | _ => ("", "", "", false)
def tyJ0 : Nat → FieldType := fun k => match k with
  | _ => .int
theorem nmJ0 : ∀ a, a < 0 → ∀ b, b < 0 → a ≠ b → (TJ0 a).2.1 ≠ (TJ0 b).2.1 := by decide +kernel
theorem tyJ0_ok : ∀ k, k < 0 → parseFieldDescriptor (TJ0 k).2.2.1 = some (tyJ0 k) := by decide +kernel
abbrev cJ0_length_8abf5 : ByteArray := prog_16_method_54_code
def yJ0_length_8abf5 : MethodName := ⟨RJ0, "length", "()I"⟩
abbrev cJ0_isEmpty_aae02 : ByteArray := prog_16_method_55_code
def yJ0_isEmpty_aae02 : MethodName := ⟨RJ0, "isEmpty", "()Z"⟩
abbrev cJ0_charAt_5068e : ByteArray := prog_16_method_56_code
def yJ0_charAt_5068e : MethodName := ⟨RJ0, "charAt", "(I)C"⟩
abbrev cJ0_coder_7d493 : ByteArray := prog_16_method_152_code
def yJ0_coder_7d493 : MethodName := ⟨RJ0, "coder", "()B"⟩
abbrev cJ0_isLatin1_aae02 : ByteArray := prog_16_method_154_code
def yJ0_isLatin1_aae02 : MethodName := ⟨RJ0, "isLatin1", "()Z"⟩
abbrev cJ0_checkIndex_df160 : ByteArray := prog_16_method_155_code
def yJ0_checkIndex_df160 : MethodName := ⟨RJ0, "checkIndex", "(II)V"⟩
def RJ1 : String := "java/lang/StringLatin1"
def TJ1 : u_T := fun k => match k with
  | _ => ("", "", "", false)
def tyJ1 : Nat → FieldType := fun k => match k with
  | _ => .int
theorem nmJ1 : ∀ a, a < 0 → ∀ b, b < 0 → a ≠ b → (TJ1 a).2.1 ≠ (TJ1 b).2.1 := by decide +kernel
theorem tyJ1_ok : ∀ k, k < 0 → parseFieldDescriptor (TJ1 k).2.2.1 = some (tyJ1 k) := by decide +kernel
abbrev cJ1_charAt_3b067 : ByteArray := prog_17_method_2_code
def yJ1_charAt_3b067 : MethodName := ⟨RJ1, "charAt", "([BI)C"⟩
def RJ2 : String := "java/lang/StringUTF16"
def TJ2 : u_T := fun k => match k with
  | _ => ("", "", "", false)
def tyJ2 : Nat → FieldType := fun k => match k with
  | _ => .int
theorem nmJ2 : ∀ a, a < 0 → ∀ b, b < 0 → a ≠ b → (TJ2 a).2.1 ≠ (TJ2 b).2.1 := by decide +kernel
theorem tyJ2_ok : ∀ k, k < 0 → parseFieldDescriptor (TJ2 k).2.2.1 = some (tyJ2 k) := by decide +kernel
abbrev cJ2_getChar_3b067 : ByteArray := prog_18_method_5_code
def yJ2_getChar_3b067 : MethodName := ⟨RJ2, "getChar", "([BI)C"⟩
abbrev cJ2_length_9d52b : ByteArray := prog_18_method_6_code
def yJ2_length_9d52b : MethodName := ⟨RJ2, "length", "([B)I"⟩
abbrev cJ2_charAt_3b067 : ByteArray := prog_18_method_83_code
def yJ2_charAt_3b067 : MethodName := ⟨RJ2, "charAt", "([BI)C"⟩
abbrev cJ2_checkIndex_2214a : ByteArray := prog_18_method_91_code
def yJ2_checkIndex_2214a : MethodName := ⟨RJ2, "checkIndex", "(I[B)V"⟩
def RJ10 : String := "java/lang/System"
def TJ10 : u_T := fun k => match k with
  | _ => ("", "", "", false)
def tyJ10 : Nat → FieldType := fun k => match k with
  | _ => .int
theorem nmJ10 : ∀ a, a < 0 → ∀ b, b < 0 → a ≠ b → (TJ10 a).2.1 ≠ (TJ10 b).2.1 := by decide +kernel
theorem tyJ10_ok : ∀ k, k < 0 → parseFieldDescriptor (TJ10 k).2.2.1 = some (tyJ10 k) := by decide +kernel
def RJ3 : String := "jdk/internal/util/Preconditions"
def TJ3 : u_T := fun k => match k with
  | _ => ("", "", "", false)
def tyJ3 : Nat → FieldType := fun k => match k with
  | _ => .int
theorem nmJ3 : ∀ a, a < 0 → ∀ b, b < 0 → a ≠ b → (TJ3 a).2.1 ≠ (TJ3 b).2.1 := by decide +kernel
theorem tyJ3_ok : ∀ k, k < 0 → parseFieldDescriptor (TJ3 k).2.2.1 = some (tyJ3 k) := by decide +kernel
abbrev cJ3_checkIndex_8e157 : ByteArray := prog_20_method_11_code
def yJ3_checkIndex_8e157 : MethodName := ⟨RJ3, "checkIndex", "(IILjava/util/function/BiFunction;)I"⟩
def RL : String := "ReservoirMindLaw"
abbrev cL_law : ByteArray := code
def yL_law : MethodName := ⟨RL, "law", "([I)Z"⟩
abbrev vwCl : List vw_C := [(RX0, TX0, 11), (RX1, TX1, 4), (RX2, TX2, 7), (RX3, TX3, 3), (RX4, TX4, 8), (RX5, TX5, 6), (RX6, TX6, 4), (RX7, TX7, 6), (RX8, TX8, 4), (RX9, TX9, 3), (RX10, TX10, 17), (RX11, TX11, 36)]
