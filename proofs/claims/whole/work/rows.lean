section
-- ===== PART A: goes FIRST, ahead of the names: the tables' words, and 'selects' of the private methods out of them =====
/-- a private method of a class that the tables say can be made, by its rows of tables_1 -/
def lw_okq (q : MethodName × Nat) : Prop := (q.1.cls ≠ "java/lang/invoke/MethodHandle" ∧ q.1.cls ≠ "java/lang/invoke/VarHandle") ∧ Cond.instantiable q.1.cls q.2 ∈ tables_1 ∧ Cond.privateMethod q.1 ∈ tables_1 ∧ Cond.instanceMethod q.1 ∈ tables_1
theorem lw_p0 : lw_okq (⟨"java/util/ArrayList", "add", "(Ljava/lang/Object;[Ljava/lang/Object;I)V"⟩, 3) := ⟨⟨by decide +kernel, by decide +kernel⟩, List.mem_of_getElem? (i := 39) (by decide +kernel), List.mem_of_getElem? (i := 151) (by decide +kernel), List.mem_of_getElem? (i := 152) (by decide +kernel)⟩
theorem lw_p1 : lw_okq (⟨"java/util/ArrayList", "grow", "()[Ljava/lang/Object;"⟩, 3) := ⟨⟨by decide +kernel, by decide +kernel⟩, List.mem_of_getElem? (i := 39) (by decide +kernel), List.mem_of_getElem? (i := 155) (by decide +kernel), List.mem_of_getElem? (i := 156) (by decide +kernel)⟩
theorem lw_p2 : lw_okq (⟨"java/util/ArrayList", "grow", "(I)[Ljava/lang/Object;"⟩, 3) := ⟨⟨by decide +kernel, by decide +kernel⟩, List.mem_of_getElem? (i := 39) (by decide +kernel), List.mem_of_getElem? (i := 159) (by decide +kernel), List.mem_of_getElem? (i := 160) (by decide +kernel)⟩
theorem lw_p3 : lw_okq (⟨"java/util/ArrayList", "rangeCheckForAdd", "(I)V"⟩, 3) := ⟨⟨by decide +kernel, by decide +kernel⟩, List.mem_of_getElem? (i := 39) (by decide +kernel), List.mem_of_getElem? (i := 423) (by decide +kernel), List.mem_of_getElem? (i := 424) (by decide +kernel)⟩
theorem lw_p4 : lw_okq (⟨"BuildCache", "refusalOfSource", "(II)I"⟩, 8) := ⟨⟨by decide +kernel, by decide +kernel⟩, List.mem_of_getElem? (i := 25) (by decide +kernel), List.mem_of_getElem? (i := 444) (by decide +kernel), List.mem_of_getElem? (i := 445) (by decide +kernel)⟩
theorem lw_p5 : lw_okq (⟨"BuildCache", "refusalOfFile", "(II)I"⟩, 8) := ⟨⟨by decide +kernel, by decide +kernel⟩, List.mem_of_getElem? (i := 25) (by decide +kernel), List.mem_of_getElem? (i := 448) (by decide +kernel), List.mem_of_getElem? (i := 449) (by decide +kernel)⟩
theorem lw_p6 : lw_okq (⟨"BuildCache", "carryOut", "(II)V"⟩, 8) := ⟨⟨by decide +kernel, by decide +kernel⟩, List.mem_of_getElem? (i := 25) (by decide +kernel), List.mem_of_getElem? (i := 655) (by decide +kernel), List.mem_of_getElem? (i := 656) (by decide +kernel)⟩
theorem lw_p7 : lw_okq (⟨"BuildCache$Key", "put", "(I)V"⟩, 5) := ⟨⟨by decide +kernel, by decide +kernel⟩, List.mem_of_getElem? (i := 299) (by decide +kernel), List.mem_of_getElem? (i := 664) (by decide +kernel), List.mem_of_getElem? (i := 665) (by decide +kernel)⟩
theorem lw_p8 : lw_okq (⟨"BuildCache$Key", "putPart", "(LBuildCache$Path;I)V"⟩, 5) := ⟨⟨by decide +kernel, by decide +kernel⟩, List.mem_of_getElem? (i := 299) (by decide +kernel), List.mem_of_getElem? (i := 670) (by decide +kernel), List.mem_of_getElem? (i := 671) (by decide +kernel)⟩
theorem lw_p9 : lw_okq (⟨"BuildCache$Key", "putListed", "(LBuildCache$Path;I)V"⟩, 5) := ⟨⟨by decide +kernel, by decide +kernel⟩, List.mem_of_getElem? (i := 299) (by decide +kernel), List.mem_of_getElem? (i := 674) (by decide +kernel), List.mem_of_getElem? (i := 675) (by decide +kernel)⟩
theorem lw_p10 : lw_okq (⟨"BuildCache$Key", "putContent", "(LBuildCache$Content;)V"⟩, 5) := ⟨⟨by decide +kernel, by decide +kernel⟩, List.mem_of_getElem? (i := 299) (by decide +kernel), List.mem_of_getElem? (i := 687) (by decide +kernel), List.mem_of_getElem? (i := 688) (by decide +kernel)⟩
theorem lw_p11 : lw_okq (⟨"BuildCache$Key", "firstOther", "(LBuildCache$Key;)I"⟩, 5) := ⟨⟨by decide +kernel, by decide +kernel⟩, List.mem_of_getElem? (i := 299) (by decide +kernel), List.mem_of_getElem? (i := 699) (by decide +kernel), List.mem_of_getElem? (i := 700) (by decide +kernel)⟩
theorem lw_p12 : lw_okq (⟨"java/util/ArrayList", "fastRemove", "([Ljava/lang/Object;I)V"⟩, 3) := ⟨⟨by decide +kernel, by decide +kernel⟩, List.mem_of_getElem? (i := 39) (by decide +kernel), List.mem_of_getElem? (i := 758) (by decide +kernel), List.mem_of_getElem? (i := 759) (by decide +kernel)⟩
theorem lw_p13 : lw_okq (⟨"BuildCache$Runner", "perform", "(LBuildCache$Action;IILBuildCache$Outcome;)I"⟩, 2) := ⟨⟨by decide +kernel, by decide +kernel⟩, List.mem_of_getElem? (i := 255) (by decide +kernel), List.mem_of_getElem? (i := 790) (by decide +kernel), List.mem_of_getElem? (i := 791) (by decide +kernel)⟩
theorem lw_p14 : lw_okq (⟨"BuildCache$Runner", "readInput", "(LBuildCache$Action;II)I"⟩, 2) := ⟨⟨by decide +kernel, by decide +kernel⟩, List.mem_of_getElem? (i := 255) (by decide +kernel), List.mem_of_getElem? (i := 794) (by decide +kernel), List.mem_of_getElem? (i := 795) (by decide +kernel)⟩
theorem lw_p15 : lw_okq (⟨"BuildCache$Runner", "listInput", "(LBuildCache$Action;II)I"⟩, 2) := ⟨⟨by decide +kernel, by decide +kernel⟩, List.mem_of_getElem? (i := 255) (by decide +kernel), List.mem_of_getElem? (i := 807) (by decide +kernel), List.mem_of_getElem? (i := 808) (by decide +kernel)⟩
def lw_privs_1 : List (MethodName × Nat) := [(⟨"java/util/ArrayList", "add", "(Ljava/lang/Object;[Ljava/lang/Object;I)V"⟩, 3), (⟨"java/util/ArrayList", "grow", "()[Ljava/lang/Object;"⟩, 3), (⟨"java/util/ArrayList", "grow", "(I)[Ljava/lang/Object;"⟩, 3), (⟨"java/util/ArrayList", "rangeCheckForAdd", "(I)V"⟩, 3), (⟨"BuildCache", "refusalOfSource", "(II)I"⟩, 8), (⟨"BuildCache", "refusalOfFile", "(II)I"⟩, 8), (⟨"BuildCache", "carryOut", "(II)V"⟩, 8), (⟨"BuildCache$Key", "put", "(I)V"⟩, 5), (⟨"BuildCache$Key", "putPart", "(LBuildCache$Path;I)V"⟩, 5), (⟨"BuildCache$Key", "putListed", "(LBuildCache$Path;I)V"⟩, 5), (⟨"BuildCache$Key", "putContent", "(LBuildCache$Content;)V"⟩, 5), (⟨"BuildCache$Key", "firstOther", "(LBuildCache$Key;)I"⟩, 5), (⟨"java/util/ArrayList", "fastRemove", "([Ljava/lang/Object;I)V"⟩, 3), (⟨"BuildCache$Runner", "perform", "(LBuildCache$Action;IILBuildCache$Outcome;)I"⟩, 2), (⟨"BuildCache$Runner", "readInput", "(LBuildCache$Action;II)I"⟩, 2), (⟨"BuildCache$Runner", "listInput", "(LBuildCache$Action;II)I"⟩, 2)]
theorem lw_r1 : ∀ q ∈ lw_privs_1, lw_okq q := List.forall_mem_cons.mpr ⟨lw_p0, List.forall_mem_cons.mpr ⟨lw_p1, List.forall_mem_cons.mpr ⟨lw_p2, List.forall_mem_cons.mpr ⟨lw_p3, List.forall_mem_cons.mpr ⟨lw_p4, List.forall_mem_cons.mpr ⟨lw_p5, List.forall_mem_cons.mpr ⟨lw_p6, List.forall_mem_cons.mpr ⟨lw_p7, List.forall_mem_cons.mpr ⟨lw_p8, List.forall_mem_cons.mpr ⟨lw_p9, List.forall_mem_cons.mpr ⟨lw_p10, List.forall_mem_cons.mpr ⟨lw_p11, List.forall_mem_cons.mpr ⟨lw_p12, List.forall_mem_cons.mpr ⟨lw_p13, List.forall_mem_cons.mpr ⟨lw_p14, List.forall_mem_cons.mpr ⟨lw_p15, fun _ h => absurd h List.not_mem_nil⟩⟩⟩⟩⟩⟩⟩⟩⟩⟩⟩⟩⟩⟩⟩⟩
theorem lw_p16 : lw_okq (⟨"BuildCache$Runner", "writeOutput", "(LBuildCache$Outcome;I)I"⟩, 2) := ⟨⟨by decide +kernel, by decide +kernel⟩, List.mem_of_getElem? (i := 255) (by decide +kernel), List.mem_of_getElem? (i := 811) (by decide +kernel), List.mem_of_getElem? (i := 812) (by decide +kernel)⟩
theorem lw_p17 : lw_okq (⟨"BuildCache$Runner", "skipFor", "(LBuildCache$Action;II)I"⟩, 2) := ⟨⟨by decide +kernel, by decide +kernel⟩, List.mem_of_getElem? (i := 255) (by decide +kernel), List.mem_of_getElem? (i := 816) (by decide +kernel), List.mem_of_getElem? (i := 817) (by decide +kernel)⟩
theorem lw_p18 : lw_okq (⟨"BuildCache$Runner", "reshape", "(II)I"⟩, 2) := ⟨⟨by decide +kernel, by decide +kernel⟩, List.mem_of_getElem? (i := 255) (by decide +kernel), List.mem_of_getElem? (i := 820) (by decide +kernel), List.mem_of_getElem? (i := 821) (by decide +kernel)⟩
theorem lw_p19 : lw_okq (⟨"BuildCache$Content", "isAmongFirst", "(II)Z"⟩, 2) := ⟨⟨by decide +kernel, by decide +kernel⟩, List.mem_of_getElem? (i := 82) (by decide +kernel), List.mem_of_getElem? (i := 849) (by decide +kernel), List.mem_of_getElem? (i := 850) (by decide +kernel)⟩
theorem lw_p20 : lw_okq (⟨"BuildCacheModel", "isPath", "(I)Z"⟩, 54) := ⟨⟨by decide +kernel, by decide +kernel⟩, List.mem_of_getElem? (i := 944) (by decide +kernel), List.mem_of_getElem? (i := 1120) (by decide +kernel), List.mem_of_getElem? (i := 1121) (by decide +kernel)⟩
theorem lw_p21 : lw_okq (⟨"BuildCacheModel", "isBadFile", "(II)Z"⟩, 54) := ⟨⟨by decide +kernel, by decide +kernel⟩, List.mem_of_getElem? (i := 944) (by decide +kernel), List.mem_of_getElem? (i := 1140) (by decide +kernel), List.mem_of_getElem? (i := 1141) (by decide +kernel)⟩
theorem lw_p22 : lw_okq (⟨"BuildCacheModel", "isSource", "(I)Z"⟩, 54) := ⟨⟨by decide +kernel, by decide +kernel⟩, List.mem_of_getElem? (i := 944) (by decide +kernel), List.mem_of_getElem? (i := 1144) (by decide +kernel), List.mem_of_getElem? (i := 1145) (by decide +kernel)⟩
theorem lw_p23 : lw_okq (⟨"BuildCacheModel", "isAlike", "(III)Z"⟩, 54) := ⟨⟨by decide +kernel, by decide +kernel⟩, List.mem_of_getElem? (i := 944) (by decide +kernel), List.mem_of_getElem? (i := 1156) (by decide +kernel), List.mem_of_getElem? (i := 1157) (by decide +kernel)⟩
theorem lw_p24 : lw_okq (⟨"BuildCacheModel", "copyFile", "(III)V"⟩, 54) := ⟨⟨by decide +kernel, by decide +kernel⟩, List.mem_of_getElem? (i := 944) (by decide +kernel), List.mem_of_getElem? (i := 1160) (by decide +kernel), List.mem_of_getElem? (i := 1161) (by decide +kernel)⟩
theorem lw_p25 : lw_okq (⟨"BuildCacheModel", "isAction", "(I)Z"⟩, 54) := ⟨⟨by decide +kernel, by decide +kernel⟩, List.mem_of_getElem? (i := 944) (by decide +kernel), List.mem_of_getElem? (i := 1180) (by decide +kernel), List.mem_of_getElem? (i := 1181) (by decide +kernel)⟩
theorem lw_p26 : lw_okq (⟨"BuildCacheModel", "comesToItself", "(IIZ)Z"⟩, 54) := ⟨⟨by decide +kernel, by decide +kernel⟩, List.mem_of_getElem? (i := 944) (by decide +kernel), List.mem_of_getElem? (i := 1184) (by decide +kernel), List.mem_of_getElem? (i := 1185) (by decide +kernel)⟩
theorem lw_p27 : lw_okq (⟨"BuildCacheModel", "reach", "(I)V"⟩, 54) := ⟨⟨by decide +kernel, by decide +kernel⟩, List.mem_of_getElem? (i := 944) (by decide +kernel), List.mem_of_getElem? (i := 1188) (by decide +kernel), List.mem_of_getElem? (i := 1189) (by decide +kernel)⟩
theorem lw_p28 : lw_okq (⟨"BuildCacheModel", "isUsed", "(II)Z"⟩, 54) := ⟨⟨by decide +kernel, by decide +kernel⟩, List.mem_of_getElem? (i := 944) (by decide +kernel), List.mem_of_getElem? (i := 1192) (by decide +kernel), List.mem_of_getElem? (i := 1193) (by decide +kernel)⟩
theorem lw_p29 : lw_okq (⟨"BuildCacheModel", "isCircle", "(I)Z"⟩, 54) := ⟨⟨by decide +kernel, by decide +kernel⟩, List.mem_of_getElem? (i := 944) (by decide +kernel), List.mem_of_getElem? (i := 1196) (by decide +kernel), List.mem_of_getElem? (i := 1197) (by decide +kernel)⟩
theorem lw_p30 : lw_okq (⟨"BuildCacheModel", "layKey", "(II)V"⟩, 54) := ⟨⟨by decide +kernel, by decide +kernel⟩, List.mem_of_getElem? (i := 944) (by decide +kernel), List.mem_of_getElem? (i := 1224) (by decide +kernel), List.mem_of_getElem? (i := 1225) (by decide +kernel)⟩
theorem lw_p31 : lw_okq (⟨"BuildCacheModel", "mixHead", "(I)V"⟩, 54) := ⟨⟨by decide +kernel, by decide +kernel⟩, List.mem_of_getElem? (i := 944) (by decide +kernel), List.mem_of_getElem? (i := 1228) (by decide +kernel), List.mem_of_getElem? (i := 1229) (by decide +kernel)⟩
def lw_privs_2 : List (MethodName × Nat) := [(⟨"BuildCache$Runner", "writeOutput", "(LBuildCache$Outcome;I)I"⟩, 2), (⟨"BuildCache$Runner", "skipFor", "(LBuildCache$Action;II)I"⟩, 2), (⟨"BuildCache$Runner", "reshape", "(II)I"⟩, 2), (⟨"BuildCache$Content", "isAmongFirst", "(II)Z"⟩, 2), (⟨"BuildCacheModel", "isPath", "(I)Z"⟩, 54), (⟨"BuildCacheModel", "isBadFile", "(II)Z"⟩, 54), (⟨"BuildCacheModel", "isSource", "(I)Z"⟩, 54), (⟨"BuildCacheModel", "isAlike", "(III)Z"⟩, 54), (⟨"BuildCacheModel", "copyFile", "(III)V"⟩, 54), (⟨"BuildCacheModel", "isAction", "(I)Z"⟩, 54), (⟨"BuildCacheModel", "comesToItself", "(IIZ)Z"⟩, 54), (⟨"BuildCacheModel", "reach", "(I)V"⟩, 54), (⟨"BuildCacheModel", "isUsed", "(II)Z"⟩, 54), (⟨"BuildCacheModel", "isCircle", "(I)Z"⟩, 54), (⟨"BuildCacheModel", "layKey", "(II)V"⟩, 54), (⟨"BuildCacheModel", "mixHead", "(I)V"⟩, 54)]
theorem lw_r2 : ∀ q ∈ lw_privs_2, lw_okq q := List.forall_mem_cons.mpr ⟨lw_p16, List.forall_mem_cons.mpr ⟨lw_p17, List.forall_mem_cons.mpr ⟨lw_p18, List.forall_mem_cons.mpr ⟨lw_p19, List.forall_mem_cons.mpr ⟨lw_p20, List.forall_mem_cons.mpr ⟨lw_p21, List.forall_mem_cons.mpr ⟨lw_p22, List.forall_mem_cons.mpr ⟨lw_p23, List.forall_mem_cons.mpr ⟨lw_p24, List.forall_mem_cons.mpr ⟨lw_p25, List.forall_mem_cons.mpr ⟨lw_p26, List.forall_mem_cons.mpr ⟨lw_p27, List.forall_mem_cons.mpr ⟨lw_p28, List.forall_mem_cons.mpr ⟨lw_p29, List.forall_mem_cons.mpr ⟨lw_p30, List.forall_mem_cons.mpr ⟨lw_p31, fun _ h => absurd h List.not_mem_nil⟩⟩⟩⟩⟩⟩⟩⟩⟩⟩⟩⟩⟩⟩⟩⟩
theorem lw_p32 : lw_okq (⟨"BuildCacheModel", "mix", "(I)V"⟩, 54) := ⟨⟨by decide +kernel, by decide +kernel⟩, List.mem_of_getElem? (i := 944) (by decide +kernel), List.mem_of_getElem? (i := 1232) (by decide +kernel), List.mem_of_getElem? (i := 1233) (by decide +kernel)⟩
theorem lw_p33 : lw_okq (⟨"BuildCacheModel", "mixPart", "(II)V"⟩, 54) := ⟨⟨by decide +kernel, by decide +kernel⟩, List.mem_of_getElem? (i := 944) (by decide +kernel), List.mem_of_getElem? (i := 1236) (by decide +kernel), List.mem_of_getElem? (i := 1237) (by decide +kernel)⟩
theorem lw_p34 : lw_okq (⟨"BuildCacheModel", "list", "(II)V"⟩, 54) := ⟨⟨by decide +kernel, by decide +kernel⟩, List.mem_of_getElem? (i := 944) (by decide +kernel), List.mem_of_getElem? (i := 1240) (by decide +kernel), List.mem_of_getElem? (i := 1241) (by decide +kernel)⟩
theorem lw_p35 : lw_okq (⟨"BuildCacheModel", "changedOf", "(II)I"⟩, 54) := ⟨⟨by decide +kernel, by decide +kernel⟩, List.mem_of_getElem? (i := 944) (by decide +kernel), List.mem_of_getElem? (i := 1253) (by decide +kernel), List.mem_of_getElem? (i := 1254) (by decide +kernel)⟩
theorem lw_p36 : lw_okq (⟨"BuildCacheModel", "isRow", "(II[III)Z"⟩, 54) := ⟨⟨by decide +kernel, by decide +kernel⟩, List.mem_of_getElem? (i := 944) (by decide +kernel), List.mem_of_getElem? (i := 1257) (by decide +kernel), List.mem_of_getElem? (i := 1258) (by decide +kernel)⟩
theorem lw_p37 : lw_okq (⟨"BuildCacheModel", "need", "(I)V"⟩, 54) := ⟨⟨by decide +kernel, by decide +kernel⟩, List.mem_of_getElem? (i := 944) (by decide +kernel), List.mem_of_getElem? (i := 1265) (by decide +kernel), List.mem_of_getElem? (i := 1266) (by decide +kernel)⟩
theorem lw_p38 : lw_okq (⟨"BuildCacheModel", "next", "()I"⟩, 54) := ⟨⟨by decide +kernel, by decide +kernel⟩, List.mem_of_getElem? (i := 944) (by decide +kernel), List.mem_of_getElem? (i := 1269) (by decide +kernel), List.mem_of_getElem? (i := 1270) (by decide +kernel)⟩
theorem lw_p39 : lw_okq (⟨"BuildCacheModel", "does", "(II)V"⟩, 54) := ⟨⟨by decide +kernel, by decide +kernel⟩, List.mem_of_getElem? (i := 944) (by decide +kernel), List.mem_of_getElem? (i := 1273) (by decide +kernel), List.mem_of_getElem? (i := 1274) (by decide +kernel)⟩
theorem lw_p40 : lw_okq (⟨"BuildCacheModel", "note", "(II)V"⟩, 54) := ⟨⟨by decide +kernel, by decide +kernel⟩, List.mem_of_getElem? (i := 944) (by decide +kernel), List.mem_of_getElem? (i := 1277) (by decide +kernel), List.mem_of_getElem? (i := 1278) (by decide +kernel)⟩
theorem lw_p41 : lw_okq (⟨"BuildCacheModel", "placeOf", "()I"⟩, 54) := ⟨⟨by decide +kernel, by decide +kernel⟩, List.mem_of_getElem? (i := 944) (by decide +kernel), List.mem_of_getElem? (i := 1281) (by decide +kernel), List.mem_of_getElem? (i := 1282) (by decide +kernel)⟩
theorem lw_p42 : lw_okq (⟨"BuildCacheModel", "play", "(II)V"⟩, 54) := ⟨⟨by decide +kernel, by decide +kernel⟩, List.mem_of_getElem? (i := 944) (by decide +kernel), List.mem_of_getElem? (i := 1285) (by decide +kernel), List.mem_of_getElem? (i := 1286) (by decide +kernel)⟩
theorem lw_p43 : lw_okq (⟨"BuildCacheModel", "writeOut", "(I)V"⟩, 54) := ⟨⟨by decide +kernel, by decide +kernel⟩, List.mem_of_getElem? (i := 944) (by decide +kernel), List.mem_of_getElem? (i := 1289) (by decide +kernel), List.mem_of_getElem? (i := 1290) (by decide +kernel)⟩
theorem lw_p44 : lw_okq (⟨"BuildCacheModel", "alone", "(II)V"⟩, 54) := ⟨⟨by decide +kernel, by decide +kernel⟩, List.mem_of_getElem? (i := 944) (by decide +kernel), List.mem_of_getElem? (i := 1293) (by decide +kernel), List.mem_of_getElem? (i := 1294) (by decide +kernel)⟩
theorem lw_p45 : lw_okq (⟨"BuildCacheModel", "add", "(I)V"⟩, 54) := ⟨⟨by decide +kernel, by decide +kernel⟩, List.mem_of_getElem? (i := 944) (by decide +kernel), List.mem_of_getElem? (i := 1297) (by decide +kernel), List.mem_of_getElem? (i := 1298) (by decide +kernel)⟩
theorem lw_p46 : lw_okq (⟨"BuildCacheModel", "turn", "()V"⟩, 54) := ⟨⟨by decide +kernel, by decide +kernel⟩, List.mem_of_getElem? (i := 944) (by decide +kernel), List.mem_of_getElem? (i := 1301) (by decide +kernel), List.mem_of_getElem? (i := 1302) (by decide +kernel)⟩
theorem lw_p47 : lw_okq (⟨"BuildCacheModel", "sort", "()V"⟩, 54) := ⟨⟨by decide +kernel, by decide +kernel⟩, List.mem_of_getElem? (i := 944) (by decide +kernel), List.mem_of_getElem? (i := 1305) (by decide +kernel), List.mem_of_getElem? (i := 1306) (by decide +kernel)⟩
def lw_privs_3 : List (MethodName × Nat) := [(⟨"BuildCacheModel", "mix", "(I)V"⟩, 54), (⟨"BuildCacheModel", "mixPart", "(II)V"⟩, 54), (⟨"BuildCacheModel", "list", "(II)V"⟩, 54), (⟨"BuildCacheModel", "changedOf", "(II)I"⟩, 54), (⟨"BuildCacheModel", "isRow", "(II[III)Z"⟩, 54), (⟨"BuildCacheModel", "need", "(I)V"⟩, 54), (⟨"BuildCacheModel", "next", "()I"⟩, 54), (⟨"BuildCacheModel", "does", "(II)V"⟩, 54), (⟨"BuildCacheModel", "note", "(II)V"⟩, 54), (⟨"BuildCacheModel", "placeOf", "()I"⟩, 54), (⟨"BuildCacheModel", "play", "(II)V"⟩, 54), (⟨"BuildCacheModel", "writeOut", "(I)V"⟩, 54), (⟨"BuildCacheModel", "alone", "(II)V"⟩, 54), (⟨"BuildCacheModel", "add", "(I)V"⟩, 54), (⟨"BuildCacheModel", "turn", "()V"⟩, 54), (⟨"BuildCacheModel", "sort", "()V"⟩, 54)]
theorem lw_r3 : ∀ q ∈ lw_privs_3, lw_okq q := List.forall_mem_cons.mpr ⟨lw_p32, List.forall_mem_cons.mpr ⟨lw_p33, List.forall_mem_cons.mpr ⟨lw_p34, List.forall_mem_cons.mpr ⟨lw_p35, List.forall_mem_cons.mpr ⟨lw_p36, List.forall_mem_cons.mpr ⟨lw_p37, List.forall_mem_cons.mpr ⟨lw_p38, List.forall_mem_cons.mpr ⟨lw_p39, List.forall_mem_cons.mpr ⟨lw_p40, List.forall_mem_cons.mpr ⟨lw_p41, List.forall_mem_cons.mpr ⟨lw_p42, List.forall_mem_cons.mpr ⟨lw_p43, List.forall_mem_cons.mpr ⟨lw_p44, List.forall_mem_cons.mpr ⟨lw_p45, List.forall_mem_cons.mpr ⟨lw_p46, List.forall_mem_cons.mpr ⟨lw_p47, fun _ h => absurd h List.not_mem_nil⟩⟩⟩⟩⟩⟩⟩⟩⟩⟩⟩⟩⟩⟩⟩⟩
theorem lw_p48 : lw_okq (⟨"BuildCacheModel", "figures", "(I)V"⟩, 54) := ⟨⟨by decide +kernel, by decide +kernel⟩, List.mem_of_getElem? (i := 944) (by decide +kernel), List.mem_of_getElem? (i := 1309) (by decide +kernel), List.mem_of_getElem? (i := 1310) (by decide +kernel)⟩
theorem lw_p49 : lw_okq (⟨"BuildCacheModel", "sum", "()I"⟩, 54) := ⟨⟨by decide +kernel, by decide +kernel⟩, List.mem_of_getElem? (i := 944) (by decide +kernel), List.mem_of_getElem? (i := 1313) (by decide +kernel), List.mem_of_getElem? (i := 1314) (by decide +kernel)⟩
theorem lw_p50 : lw_okq (⟨"BuildCacheModel", "once", "()V"⟩, 54) := ⟨⟨by decide +kernel, by decide +kernel⟩, List.mem_of_getElem? (i := 944) (by decide +kernel), List.mem_of_getElem? (i := 1317) (by decide +kernel), List.mem_of_getElem? (i := 1318) (by decide +kernel)⟩
theorem lw_p51 : lw_okq (⟨"BuildCacheModel", "mixWith", "(I)V"⟩, 54) := ⟨⟨by decide +kernel, by decide +kernel⟩, List.mem_of_getElem? (i := 944) (by decide +kernel), List.mem_of_getElem? (i := 1321) (by decide +kernel), List.mem_of_getElem? (i := 1322) (by decide +kernel)⟩
theorem lw_p52 : lw_okq (⟨"BuildCacheModel", "twice", "()V"⟩, 54) := ⟨⟨by decide +kernel, by decide +kernel⟩, List.mem_of_getElem? (i := 944) (by decide +kernel), List.mem_of_getElem? (i := 1325) (by decide +kernel), List.mem_of_getElem? (i := 1326) (by decide +kernel)⟩
theorem lw_p53 : lw_okq (⟨"BuildCacheModel", "read", "(II)V"⟩, 54) := ⟨⟨by decide +kernel, by decide +kernel⟩, List.mem_of_getElem? (i := 944) (by decide +kernel), List.mem_of_getElem? (i := 1329) (by decide +kernel), List.mem_of_getElem? (i := 1330) (by decide +kernel)⟩
theorem lw_p54 : lw_okq (⟨"BuildCacheModel", "listIn", "(II)V"⟩, 54) := ⟨⟨by decide +kernel, by decide +kernel⟩, List.mem_of_getElem? (i := 944) (by decide +kernel), List.mem_of_getElem? (i := 1333) (by decide +kernel), List.mem_of_getElem? (i := 1334) (by decide +kernel)⟩
theorem lw_p55 : lw_okq (⟨"BuildCacheModel", "enter", "(I)V"⟩, 54) := ⟨⟨by decide +kernel, by decide +kernel⟩, List.mem_of_getElem? (i := 944) (by decide +kernel), List.mem_of_getElem? (i := 1337) (by decide +kernel), List.mem_of_getElem? (i := 1338) (by decide +kernel)⟩
theorem lw_p56 : lw_okq (⟨"BuildCacheModel", "trim", "(I)I"⟩, 54) := ⟨⟨by decide +kernel, by decide +kernel⟩, List.mem_of_getElem? (i := 944) (by decide +kernel), List.mem_of_getElem? (i := 1341) (by decide +kernel), List.mem_of_getElem? (i := 1342) (by decide +kernel)⟩
theorem lw_p57 : lw_okq (⟨"BuildCacheModel", "sizes", "()I"⟩, 54) := ⟨⟨by decide +kernel, by decide +kernel⟩, List.mem_of_getElem? (i := 944) (by decide +kernel), List.mem_of_getElem? (i := 1345) (by decide +kernel), List.mem_of_getElem? (i := 1346) (by decide +kernel)⟩
theorem lw_p58 : lw_okq (⟨"BuildCacheModel", "takeOut", "(I)V"⟩, 54) := ⟨⟨by decide +kernel, by decide +kernel⟩, List.mem_of_getElem? (i := 944) (by decide +kernel), List.mem_of_getElem? (i := 1349) (by decide +kernel), List.mem_of_getElem? (i := 1350) (by decide +kernel)⟩
theorem lw_p59 : lw_okq (⟨"BuildCacheModel", "use", "(I)V"⟩, 54) := ⟨⟨by decide +kernel, by decide +kernel⟩, List.mem_of_getElem? (i := 944) (by decide +kernel), List.mem_of_getElem? (i := 1353) (by decide +kernel), List.mem_of_getElem? (i := 1354) (by decide +kernel)⟩
theorem lw_p60 : lw_okq (⟨"BuildCacheModel", "lay", "(II)V"⟩, 54) := ⟨⟨by decide +kernel, by decide +kernel⟩, List.mem_of_getElem? (i := 944) (by decide +kernel), List.mem_of_getElem? (i := 1357) (by decide +kernel), List.mem_of_getElem? (i := 1358) (by decide +kernel)⟩
def lw_privs_4 : List (MethodName × Nat) := [(⟨"BuildCacheModel", "figures", "(I)V"⟩, 54), (⟨"BuildCacheModel", "sum", "()I"⟩, 54), (⟨"BuildCacheModel", "once", "()V"⟩, 54), (⟨"BuildCacheModel", "mixWith", "(I)V"⟩, 54), (⟨"BuildCacheModel", "twice", "()V"⟩, 54), (⟨"BuildCacheModel", "read", "(II)V"⟩, 54), (⟨"BuildCacheModel", "listIn", "(II)V"⟩, 54), (⟨"BuildCacheModel", "enter", "(I)V"⟩, 54), (⟨"BuildCacheModel", "trim", "(I)I"⟩, 54), (⟨"BuildCacheModel", "sizes", "()I"⟩, 54), (⟨"BuildCacheModel", "takeOut", "(I)V"⟩, 54), (⟨"BuildCacheModel", "use", "(I)V"⟩, 54), (⟨"BuildCacheModel", "lay", "(II)V"⟩, 54)]
theorem lw_r4 : ∀ q ∈ lw_privs_4, lw_okq q := List.forall_mem_cons.mpr ⟨lw_p48, List.forall_mem_cons.mpr ⟨lw_p49, List.forall_mem_cons.mpr ⟨lw_p50, List.forall_mem_cons.mpr ⟨lw_p51, List.forall_mem_cons.mpr ⟨lw_p52, List.forall_mem_cons.mpr ⟨lw_p53, List.forall_mem_cons.mpr ⟨lw_p54, List.forall_mem_cons.mpr ⟨lw_p55, List.forall_mem_cons.mpr ⟨lw_p56, List.forall_mem_cons.mpr ⟨lw_p57, List.forall_mem_cons.mpr ⟨lw_p58, List.forall_mem_cons.mpr ⟨lw_p59, List.forall_mem_cons.mpr ⟨lw_p60, fun _ h => absurd h List.not_mem_nil⟩⟩⟩⟩⟩⟩⟩⟩⟩⟩⟩⟩⟩
def lw_privs : List (MethodName × Nat) := lw_privs_1 ++ (lw_privs_2 ++ (lw_privs_3 ++ (lw_privs_4)))
def lw_tbl : List Cond := k2_sels lw_privs ++ tables_1
theorem lw_privs_ok : ∀ q ∈ lw_privs, lw_okq q := by
  show ∀ q ∈ lw_privs_1 ++ (lw_privs_2 ++ (lw_privs_3 ++ (lw_privs_4))), lw_okq q
  exact List.forall_mem_append.mpr ⟨lw_r1, List.forall_mem_append.mpr ⟨lw_r2, List.forall_mem_append.mpr ⟨lw_r3, lw_r4⟩⟩⟩
-- ===== end of PART A; then your names; then what follows =====
def RX0 : String := "BuildCache$Action"
def TX0 : u_T := fun k => match k with
  | 0 => ("BuildCache$Action", "inputs", "Ljava/util/ArrayList;", true)
  | 1 => ("BuildCache$Action", "outputs", "Ljava/util/ArrayList;", true)
  | 2 => ("BuildCache$Action", "numbers", "[I", true)
  | 3 => ("BuildCache$Action", "values", "[I", true)
  | 4 => ("BuildCache$Action", "latest", "[LBuildCache$Key;", true)
  | 5 => ("BuildCache$Action", "steps", "I", false)
  | _ => ("BuildCache$Action", "used", "J", false)
def tyX0 : Nat → FieldType := fun k => match k with
  | 0 => .object "java/util/ArrayList"
  | 1 => .object "java/util/ArrayList"
  | 2 => .array .int
  | 3 => .array .int
  | 4 => .array (.object "BuildCache$Key")
  | 5 => .int
  | _ => .long
theorem nmX0 : ∀ a, a < 7 → ∀ b, b < 7 → a ≠ b → (TX0 a).2.1 ≠ (TX0 b).2.1 := by decide +kernel
theorem tyX0_ok : ∀ k, k < 7 → parseFieldDescriptor (TX0 k).2.2.1 = some (tyX0 k) := by decide +kernel
abbrev cX0_init : ByteArray := prog_2_method_1_code
def yX0_init : MethodName := ⟨RX0, "<init>", "()V"⟩
abbrev cX0_hasInput : ByteArray := prog_2_method_2_code
def yX0_hasInput : MethodName := ⟨RX0, "hasInput", "(I)Z"⟩
abbrev cX0_addStep : ByteArray := prog_2_method_3_code
def yX0_addStep : MethodName := ⟨RX0, "addStep", "(II)I"⟩
abbrev cX0_strip : ByteArray := prog_2_method_4_code
def yX0_strip : MethodName := ⟨RX0, "strip", "()I"⟩
abbrev cX0_takeOutcome : ByteArray := prog_2_method_5_code
def yX0_takeOutcome : MethodName := ⟨RX0, "takeOutcome", "(LBuildCache$Outcome;I)V"⟩
def RX1 : String := "BuildCache$Cache"
def TX1 : u_T := fun k => match k with
  | 0 => ("BuildCache$Cache", "row", "Ljava/util/ArrayList;", true)
  | 1 => ("BuildCache$Cache", "spare", "Ljava/util/ArrayList;", true)
  | 2 => ("BuildCache$Cache", "capacity", "I", false)
  | 3 => ("BuildCache$Cache", "sizes", "I", false)
  | _ => ("BuildCache$Cache", "evicted", "I", false)
def tyX1 : Nat → FieldType := fun k => match k with
  | 0 => .object "java/util/ArrayList"
  | 1 => .object "java/util/ArrayList"
  | 2 => .int
  | 3 => .int
  | _ => .int
theorem nmX1 : ∀ a, a < 5 → ∀ b, b < 5 → a ≠ b → (TX1 a).2.1 ≠ (TX1 b).2.1 := by decide +kernel
theorem tyX1_ok : ∀ k, k < 5 → parseFieldDescriptor (TX1 k).2.2.1 = some (tyX1 k) := by decide +kernel
abbrev cX1_init : ByteArray := prog_3_method_1_code
def yX1_init : MethodName := ⟨RX1, "<init>", "()V"⟩
abbrev cX1_reset : ByteArray := prog_3_method_2_code
def yX1_reset : MethodName := ⟨RX1, "reset", "()V"⟩
abbrev cX1_find : ByteArray := prog_3_method_3_code
def yX1_find : MethodName := ⟨RX1, "find", "(LBuildCache$Key;)I"⟩
abbrev cX1_use : ByteArray := prog_3_method_4_code
def yX1_use : MethodName := ⟨RX1, "use", "(I)LBuildCache$Entry;"⟩
abbrev cX1_unused : ByteArray := prog_3_method_5_code
def yX1_unused : MethodName := ⟨RX1, "unused", "(LBuildCache$Key;)LBuildCache$Entry;"⟩
abbrev cX1_add : ByteArray := prog_3_method_6_code
def yX1_add : MethodName := ⟨RX1, "add", "(LBuildCache$Entry;)V"⟩
abbrev cX1_evictExcess : ByteArray := prog_3_method_7_code
def yX1_evictExcess : MethodName := ⟨RX1, "evictExcess", "()I"⟩
abbrev cX1_dropAll : ByteArray := prog_3_method_8_code
def yX1_dropAll : MethodName := ⟨RX1, "dropAll", "()I"⟩
def RX2 : String := "BuildCache$Content"
def TX2 : u_T := fun k => match k with
  | 0 => ("BuildCache$Content", "bytes", "[I", true)
  | _ => ("BuildCache$Content", "size", "I", false)
def tyX2 : Nat → FieldType := fun k => match k with
  | 0 => .array .int
  | _ => .int
theorem nmX2 : ∀ a, a < 2 → ∀ b, b < 2 → a ≠ b → (TX2 a).2.1 ≠ (TX2 b).2.1 := by decide +kernel
theorem tyX2_ok : ∀ k, k < 2 → parseFieldDescriptor (TX2 k).2.2.1 = some (tyX2 k) := by decide +kernel
abbrev cX2_init : ByteArray := prog_4_method_1_code
def yX2_init : MethodName := ⟨RX2, "<init>", "()V"⟩
abbrev cX2_isAbsent : ByteArray := prog_4_method_2_code
def yX2_isAbsent : MethodName := ⟨RX2, "isAbsent", "()Z"⟩
abbrev cX2_append : ByteArray := prog_4_method_3_code
def yX2_append : MethodName := ⟨RX2, "append", "(I)Z"⟩
abbrev cX2_appendAll : ByteArray := prog_4_method_4_code
def yX2_appendAll : MethodName := ⟨RX2, "appendAll", "(LBuildCache$Content;)Z"⟩
abbrev cX2_become : ByteArray := prog_4_method_5_code
def yX2_become : MethodName := ⟨RX2, "become", "(LBuildCache$Content;)V"⟩
abbrev cX2_sameAs : ByteArray := prog_4_method_6_code
def yX2_sameAs : MethodName := ⟨RX2, "sameAs", "(LBuildCache$Content;)Z"⟩
abbrev cX2_turn : ByteArray := prog_4_method_7_code
def yX2_turn : MethodName := ⟨RX2, "turn", "()V"⟩
abbrev cX2_sort : ByteArray := prog_4_method_8_code
def yX2_sort : MethodName := ⟨RX2, "sort", "()V"⟩
abbrev cX2_sum : ByteArray := prog_4_method_9_code
def yX2_sum : MethodName := ⟨RX2, "sum", "()I"⟩
abbrev cX2_becomeFigures : ByteArray := prog_4_method_10_code
def yX2_becomeFigures : MethodName := ⟨RX2, "becomeFigures", "(I)V"⟩
abbrev cX2_cut : ByteArray := prog_4_method_11_code
def yX2_cut : MethodName := ⟨RX2, "cut", "(I)V"⟩
abbrev cX2_keepFirstOnes : ByteArray := prog_4_method_12_code
def yX2_keepFirstOnes : MethodName := ⟨RX2, "keepFirstOnes", "()V"⟩
abbrev cX2_isAmongFirst : ByteArray := prog_4_method_13_code
def yX2_isAmongFirst : MethodName := ⟨RX2, "isAmongFirst", "(II)Z"⟩
abbrev cX2_mix : ByteArray := prog_4_method_14_code
def yX2_mix : MethodName := ⟨RX2, "mix", "(I)V"⟩
def RX3 : String := "BuildCache$Entry"
def TX3 : u_T := fun k => match k with
  | 0 => ("BuildCache$Entry", "key", "LBuildCache$Key;", true)
  | 1 => ("BuildCache$Entry", "outcome", "LBuildCache$Outcome;", true)
  | 2 => ("BuildCache$Entry", "sign", "J", false)
  | _ => ("BuildCache$Entry", "found", "I", false)
def tyX3 : Nat → FieldType := fun k => match k with
  | 0 => .object "BuildCache$Key"
  | 1 => .object "BuildCache$Outcome"
  | 2 => .long
  | _ => .int
theorem nmX3 : ∀ a, a < 4 → ∀ b, b < 4 → a ≠ b → (TX3 a).2.1 ≠ (TX3 b).2.1 := by decide +kernel
theorem tyX3_ok : ∀ k, k < 4 → parseFieldDescriptor (TX3 k).2.2.1 = some (tyX3 k) := by decide +kernel
abbrev cX3_init : ByteArray := prog_5_method_1_code
def yX3_init : MethodName := ⟨RX3, "<init>", "()V"⟩
abbrev cX3_begin : ByteArray := prog_5_method_2_code
def yX3_begin : MethodName := ⟨RX3, "begin", "(LBuildCache$Key;)V"⟩
def RX4 : String := "BuildCache$Graph"
def TX4 : u_T := fun k => match k with
  | _ => ("BuildCache$Graph", "actions", "Ljava/util/ArrayList;", true)
def tyX4 : Nat → FieldType := fun k => match k with
  | _ => .object "java/util/ArrayList"
theorem nmX4 : ∀ a, a < 1 → ∀ b, b < 1 → a ≠ b → (TX4 a).2.1 ≠ (TX4 b).2.1 := by decide +kernel
theorem tyX4_ok : ∀ k, k < 1 → parseFieldDescriptor (TX4 k).2.2.1 = some (tyX4 k) := by decide +kernel
abbrev cX4_init : ByteArray := prog_6_method_1_code
def yX4_init : MethodName := ⟨RX4, "<init>", "()V"⟩
abbrev cX4_size : ByteArray := prog_6_method_2_code
def yX4_size : MethodName := ⟨RX4, "size", "()I"⟩
abbrev cX4_has : ByteArray := prog_6_method_3_code
def yX4_has : MethodName := ⟨RX4, "has", "(I)Z"⟩
abbrev cX4_at : ByteArray := prog_6_method_4_code
def yX4_at : MethodName := ⟨RX4, "at", "(I)LBuildCache$Action;"⟩
abbrev cX4_add : ByteArray := prog_6_method_5_code
def yX4_add : MethodName := ⟨RX4, "add", "()I"⟩
abbrev cX4_all : ByteArray := prog_6_method_6_code
def yX4_all : MethodName := ⟨RX4, "all", "()J"⟩
abbrev cX4_renewUses : ByteArray := prog_6_method_7_code
def yX4_renewUses : MethodName := ⟨RX4, "renewUses", "()V"⟩
abbrev cX4_withAllUsed : ByteArray := prog_6_method_8_code
def yX4_withAllUsed : MethodName := ⟨RX4, "withAllUsed", "(J)J"⟩
abbrev cX4_wouldCircleByInput : ByteArray := prog_6_method_9_code
def yX4_wouldCircleByInput : MethodName := ⟨RX4, "wouldCircleByInput", "(ILBuildCache$Path;)Z"⟩
abbrev cX4_wouldCircleByOutput : ByteArray := prog_6_method_10_code
def yX4_wouldCircleByOutput : MethodName := ⟨RX4, "wouldCircleByOutput", "(ILBuildCache$Path;)Z"⟩
abbrev cX4_leastReady : ByteArray := prog_6_method_11_code
def yX4_leastReady : MethodName := ⟨RX4, "leastReady", "(J)I"⟩
def RX5 : String := "BuildCache$Key"
def TX5 : u_T := fun k => match k with
  | 0 => ("BuildCache$Key", "numbers", "[I", true)
  | 1 => ("BuildCache$Key", "ends", "[I", true)
  | 2 => ("BuildCache$Key", "size", "I", false)
  | 3 => ("BuildCache$Key", "parts", "I", false)
  | _ => ("BuildCache$Key", "head", "I", false)
def tyX5 : Nat → FieldType := fun k => match k with
  | 0 => .array .int
  | 1 => .array .int
  | 2 => .int
  | 3 => .int
  | _ => .int
theorem nmX5 : ∀ a, a < 5 → ∀ b, b < 5 → a ≠ b → (TX5 a).2.1 ≠ (TX5 b).2.1 := by decide +kernel
theorem tyX5_ok : ∀ k, k < 5 → parseFieldDescriptor (TX5 k).2.2.1 = some (tyX5 k) := by decide +kernel
abbrev cX5_init : ByteArray := prog_7_method_1_code
def yX5_init : MethodName := ⟨RX5, "<init>", "()V"⟩
abbrev cX5_describe : ByteArray := prog_7_method_2_code
def yX5_describe : MethodName := ⟨RX5, "describe", "(LBuildCache$Action;I)V"⟩
abbrev cX5_putPart : ByteArray := prog_7_method_3_code
def yX5_putPart : MethodName := ⟨RX5, "putPart", "(LBuildCache$Path;I)V"⟩
abbrev cX5_putListed : ByteArray := prog_7_method_4_code
def yX5_putListed : MethodName := ⟨RX5, "putListed", "(LBuildCache$Path;I)V"⟩
abbrev cX5_putContent : ByteArray := prog_7_method_5_code
def yX5_putContent : MethodName := ⟨RX5, "putContent", "(LBuildCache$Content;)V"⟩
abbrev cX5_put : ByteArray := prog_7_method_6_code
def yX5_put : MethodName := ⟨RX5, "put", "(I)V"⟩
abbrev cX5_become : ByteArray := prog_7_method_7_code
def yX5_become : MethodName := ⟨RX5, "become", "(LBuildCache$Key;)V"⟩
abbrev cX5_sign : ByteArray := prog_7_method_8_code
def yX5_sign : MethodName := ⟨RX5, "sign", "()J"⟩
abbrev cX5_sameAs : ByteArray := prog_7_method_9_code
def yX5_sameAs : MethodName := ⟨RX5, "sameAs", "(LBuildCache$Key;)Z"⟩
abbrev cX5_firstOther : ByteArray := prog_7_method_10_code
def yX5_firstOther : MethodName := ⟨RX5, "firstOther", "(LBuildCache$Key;)I"⟩
abbrev cX5_changeSince : ByteArray := prog_7_method_11_code
def yX5_changeSince : MethodName := ⟨RX5, "changeSince", "(LBuildCache$Key;)I"⟩
def RX6 : String := "BuildCache$Log"
def TX6 : u_T := fun k => match k with
  | 0 => ("BuildCache$Log", "deeds", "[[I", true)
  | 1 => ("BuildCache$Log", "size", "I", false)
  | 2 => ("BuildCache$Log", "ran", "I", false)
  | 3 => ("BuildCache$Log", "found", "I", false)
  | _ => ("BuildCache$Log", "builds", "I", false)
def tyX6 : Nat → FieldType := fun k => match k with
  | 0 => .array (.array .int)
  | 1 => .int
  | 2 => .int
  | 3 => .int
  | _ => .int
theorem nmX6 : ∀ a, a < 5 → ∀ b, b < 5 → a ≠ b → (TX6 a).2.1 ≠ (TX6 b).2.1 := by decide +kernel
theorem tyX6_ok : ∀ k, k < 5 → parseFieldDescriptor (TX6 k).2.2.1 = some (tyX6 k) := by decide +kernel
abbrev cX6_init : ByteArray := prog_8_method_1_code
def yX6_init : MethodName := ⟨RX6, "<init>", "()V"⟩
abbrev cX6_reset : ByteArray := prog_8_method_2_code
def yX6_reset : MethodName := ⟨RX6, "reset", "()V"⟩
abbrev cX6_begin : ByteArray := prog_8_method_3_code
def yX6_begin : MethodName := ⟨RX6, "begin", "()V"⟩
abbrev cX6_add : ByteArray := prog_8_method_4_code
def yX6_add : MethodName := ⟨RX6, "add", "(IZII)V"⟩
def RX7 : String := "BuildCache$Outcome"
def TX7 : u_T := fun k => match k with
  | 0 => ("BuildCache$Outcome", "contents", "[LBuildCache$Content;", true)
  | 1 => ("BuildCache$Outcome", "outputs", "I", false)
  | _ => ("BuildCache$Outcome", "failure", "I", false)
def tyX7 : Nat → FieldType := fun k => match k with
  | 0 => .array (.object "BuildCache$Content")
  | 1 => .int
  | _ => .int
theorem nmX7 : ∀ a, a < 3 → ∀ b, b < 3 → a ≠ b → (TX7 a).2.1 ≠ (TX7 b).2.1 := by decide +kernel
theorem tyX7_ok : ∀ k, k < 3 → parseFieldDescriptor (TX7 k).2.2.1 = some (tyX7 k) := by decide +kernel
abbrev cX7_init : ByteArray := prog_9_method_1_code
def yX7_init : MethodName := ⟨RX7, "<init>", "()V"⟩
abbrev cX7_begin : ByteArray := prog_9_method_2_code
def yX7_begin : MethodName := ⟨RX7, "begin", "(I)V"⟩
abbrev cX7_fail : ByteArray := prog_9_method_3_code
def yX7_fail : MethodName := ⟨RX7, "fail", "(I)V"⟩
abbrev cX7_size : ByteArray := prog_9_method_4_code
def yX7_size : MethodName := ⟨RX7, "size", "()I"⟩
def RX8 : String := "BuildCache$Path"
def TX8 : u_T := fun k => match k with
  | 0 => ("BuildCache$Path", "number", "I", true)
  | 1 => ("BuildCache$Path", "parent", "I", true)
  | 2 => ("BuildCache$Path", "name", "I", true)
  | 3 => ("BuildCache$Path", "isDirectory", "Z", true)
  | 4 => ("BuildCache$Path", "contents", "[LBuildCache$Content;", true)
  | 5 => ("BuildCache$Path", "files", "Ljava/util/ArrayList;", true)
  | _ => ("BuildCache$Path", "maker", "I", false)
def tyX8 : Nat → FieldType := fun k => match k with
  | 0 => .int
  | 1 => .int
  | 2 => .int
  | 3 => .boolean
  | 4 => .array (.object "BuildCache$Content")
  | 5 => .object "java/util/ArrayList"
  | _ => .int
theorem nmX8 : ∀ a, a < 7 → ∀ b, b < 7 → a ≠ b → (TX8 a).2.1 ≠ (TX8 b).2.1 := by decide +kernel
theorem tyX8_ok : ∀ k, k < 7 → parseFieldDescriptor (TX8 k).2.2.1 = some (tyX8 k) := by decide +kernel
abbrev cX8_init : ByteArray := prog_10_method_1_code
def yX8_init : MethodName := ⟨RX8, "<init>", "(IIIZ)V"⟩
abbrev cX8_addFile : ByteArray := prog_10_method_2_code
def yX8_addFile : MethodName := ⟨RX8, "addFile", "(LBuildCache$Path;)V"⟩
abbrev cX8_madeBy : ByteArray := prog_10_method_3_code
def yX8_madeBy : MethodName := ⟨RX8, "madeBy", "(I)V"⟩
abbrev cX8_makers : ByteArray := prog_10_method_4_code
def yX8_makers : MethodName := ⟨RX8, "makers", "()J"⟩
abbrev cX8_listed : ByteArray := prog_10_method_5_code
def yX8_listed : MethodName := ⟨RX8, "listed", "(I)I"⟩
def RX9 : String := "BuildCache$Runner"
def TX9 : u_T := fun k => match k with
  | 0 => ("BuildCache$Runner", "row", "LBuildCache$Content;", true)
  | _ => ("BuildCache$Runner", "passesOver", "Z", false)
def tyX9 : Nat → FieldType := fun k => match k with
  | 0 => .object "BuildCache$Content"
  | _ => .boolean
theorem nmX9 : ∀ a, a < 2 → ∀ b, b < 2 → a ≠ b → (TX9 a).2.1 ≠ (TX9 b).2.1 := by decide +kernel
theorem tyX9_ok : ∀ k, k < 2 → parseFieldDescriptor (TX9 k).2.2.1 = some (tyX9 k) := by decide +kernel
abbrev cX9_init : ByteArray := prog_11_method_1_code
def yX9_init : MethodName := ⟨RX9, "<init>", "()V"⟩
abbrev cX9_run : ByteArray := prog_11_method_2_code
def yX9_run : MethodName := ⟨RX9, "run", "(LBuildCache$Action;ILBuildCache$Outcome;)V"⟩
abbrev cX9_perform : ByteArray := prog_11_method_3_code
def yX9_perform : MethodName := ⟨RX9, "perform", "(LBuildCache$Action;IILBuildCache$Outcome;)I"⟩
abbrev cX9_reshape : ByteArray := prog_11_method_4_code
def yX9_reshape : MethodName := ⟨RX9, "reshape", "(II)I"⟩
abbrev cX9_readInput : ByteArray := prog_11_method_5_code
def yX9_readInput : MethodName := ⟨RX9, "readInput", "(LBuildCache$Action;II)I"⟩
abbrev cX9_listInput : ByteArray := prog_11_method_6_code
def yX9_listInput : MethodName := ⟨RX9, "listInput", "(LBuildCache$Action;II)I"⟩
abbrev cX9_writeOutput : ByteArray := prog_11_method_7_code
def yX9_writeOutput : MethodName := ⟨RX9, "writeOutput", "(LBuildCache$Outcome;I)I"⟩
abbrev cX9_skipFor : ByteArray := prog_11_method_8_code
def yX9_skipFor : MethodName := ⟨RX9, "skipFor", "(LBuildCache$Action;II)I"⟩
def RX10 : String := "BuildCache$Tree"
def TX10 : u_T := fun k => match k with
  | _ => ("BuildCache$Tree", "paths", "Ljava/util/ArrayList;", true)
def tyX10 : Nat → FieldType := fun k => match k with
  | _ => .object "java/util/ArrayList"
theorem nmX10 : ∀ a, a < 1 → ∀ b, b < 1 → a ≠ b → (TX10 a).2.1 ≠ (TX10 b).2.1 := by decide +kernel
theorem tyX10_ok : ∀ k, k < 1 → parseFieldDescriptor (TX10 k).2.2.1 = some (tyX10 k) := by decide +kernel
abbrev cX10_init : ByteArray := prog_12_method_1_code
def yX10_init : MethodName := ⟨RX10, "<init>", "()V"⟩
abbrev cX10_reset : ByteArray := prog_12_method_2_code
def yX10_reset : MethodName := ⟨RX10, "reset", "()V"⟩
abbrev cX10_size : ByteArray := prog_12_method_3_code
def yX10_size : MethodName := ⟨RX10, "size", "()I"⟩
abbrev cX10_has : ByteArray := prog_12_method_4_code
def yX10_has : MethodName := ⟨RX10, "has", "(I)Z"⟩
abbrev cX10_at : ByteArray := prog_12_method_5_code
def yX10_at : MethodName := ⟨RX10, "at", "(I)LBuildCache$Path;"⟩
abbrev cX10_isTaken : ByteArray := prog_12_method_6_code
def yX10_isTaken : MethodName := ⟨RX10, "isTaken", "(II)Z"⟩
abbrev cX10_add : ByteArray := prog_12_method_7_code
def yX10_add : MethodName := ⟨RX10, "add", "(IIZ)I"⟩
abbrev cX10_copySources : ByteArray := prog_12_method_8_code
def yX10_copySources : MethodName := ⟨RX10, "copySources", "(II)I"⟩
abbrev cX10_isMadeAlike : ByteArray := prog_12_method_9_code
def yX10_isMadeAlike : MethodName := ⟨RX10, "isMadeAlike", "(II)Z"⟩
def RX11 : String := "BuildCache"
def TX11 : u_T := fun k => match k with
  | 0 => ("BuildCache", "tree", "LBuildCache$Tree;", true)
  | 1 => ("BuildCache", "tape", "LBuildCache$Content;", true)
  | 2 => ("BuildCache", "graph", "LBuildCache$Graph;", true)
  | 3 => ("BuildCache", "cache", "LBuildCache$Cache;", true)
  | 4 => ("BuildCache", "runner", "LBuildCache$Runner;", true)
  | 5 => ("BuildCache", "log", "LBuildCache$Log;", true)
  | 6 => ("BuildCache", "present", "LBuildCache$Key;", true)
  | _ => ("BuildCache", "trial", "LBuildCache$Outcome;", true)
def tyX11 : Nat → FieldType := fun k => match k with
  | 0 => .object "BuildCache$Tree"
  | 1 => .object "BuildCache$Content"
  | 2 => .object "BuildCache$Graph"
  | 3 => .object "BuildCache$Cache"
  | 4 => .object "BuildCache$Runner"
  | 5 => .object "BuildCache$Log"
  | 6 => .object "BuildCache$Key"
  | _ => .object "BuildCache$Outcome"
theorem nmX11 : ∀ a, a < 8 → ∀ b, b < 8 → a ≠ b → (TX11 a).2.1 ≠ (TX11 b).2.1 := by decide +kernel
theorem tyX11_ok : ∀ k, k < 8 → parseFieldDescriptor (TX11 k).2.2.1 = some (tyX11 k) := by decide +kernel
abbrev cX11_init : ByteArray := prog_1_method_1_code
def yX11_init : MethodName := ⟨RX11, "<init>", "()V"⟩
abbrev cX11_path : ByteArray := prog_1_method_2_code
def yX11_path : MethodName := ⟨RX11, "path", "(IIZ)I"⟩
abbrev cX11_of : ByteArray := prog_1_method_3_code
def yX11_of : MethodName := ⟨RX11, "of", "(II)I"⟩
abbrev cX11_feed : ByteArray := prog_1_method_4_code
def yX11_feed : MethodName := ⟨RX11, "feed", "(JI)I"⟩
abbrev cX11_write : ByteArray := prog_1_method_5_code
def yX11_write : MethodName := ⟨RX11, "write", "(II)I"⟩
abbrev cX11_remove : ByteArray := prog_1_method_6_code
def yX11_remove : MethodName := ⟨RX11, "remove", "(II)I"⟩
abbrev cX11_copy : ByteArray := prog_1_method_7_code
def yX11_copy : MethodName := ⟨RX11, "copy", "(I)I"⟩
abbrev cX11_length : ByteArray := prog_1_method_8_code
def yX11_length : MethodName := ⟨RX11, "length", "(II)I"⟩
abbrev cX11_byteAt : ByteArray := prog_1_method_9_code
def yX11_byteAt : MethodName := ⟨RX11, "byteAt", "(III)I"⟩
abbrev cX11_action : ByteArray := prog_1_method_10_code
def yX11_action : MethodName := ⟨RX11, "action", "()I"⟩
abbrev cX11_input : ByteArray := prog_1_method_11_code
def yX11_input : MethodName := ⟨RX11, "input", "(II)I"⟩
abbrev cX11_output : ByteArray := prog_1_method_12_code
def yX11_output : MethodName := ⟨RX11, "output", "(II)I"⟩
abbrev cX11_step : ByteArray := prog_1_method_13_code
def yX11_step : MethodName := ⟨RX11, "step", "(III)I"⟩
abbrev cX11_erase : ByteArray := prog_1_method_14_code
def yX11_erase : MethodName := ⟨RX11, "erase", "(I)I"⟩
abbrev cX11_about : ByteArray := prog_1_method_15_code
def yX11_about : MethodName := ⟨RX11, "about", "(II)I"⟩
abbrev cX11_uses : ByteArray := prog_1_method_16_code
def yX11_uses : MethodName := ⟨RX11, "uses", "(II)I"⟩
abbrev cX11_build : ByteArray := prog_1_method_17_code
def yX11_build : MethodName := ⟨RX11, "build", "(II)I"⟩
abbrev cX11_done : ByteArray := prog_1_method_18_code
def yX11_done : MethodName := ⟨RX11, "done", "(II)I"⟩
abbrev cX11_changed : ByteArray := prog_1_method_19_code
def yX11_changed : MethodName := ⟨RX11, "changed", "(II)I"⟩
abbrev cX11_key : ByteArray := prog_1_method_20_code
def yX11_key : MethodName := ⟨RX11, "key", "(II)J"⟩
abbrev cX11_isClean : ByteArray := prog_1_method_21_code
def yX11_isClean : MethodName := ⟨RX11, "isClean", "(I)I"⟩
abbrev cX11_capacity : ByteArray := prog_1_method_22_code
def yX11_capacity : MethodName := ⟨RX11, "capacity", "(I)I"⟩
abbrev cX11_entry : ByteArray := prog_1_method_23_code
def yX11_entry : MethodName := ⟨RX11, "entry", "(II)J"⟩
abbrev cX11_forget : ByteArray := prog_1_method_24_code
def yX11_forget : MethodName := ⟨RX11, "forget", "()I"⟩
abbrev cX11_count : ByteArray := prog_1_method_25_code
def yX11_count : MethodName := ⟨RX11, "count", "(I)I"⟩
abbrev cX11_clear : ByteArray := prog_1_method_26_code
def yX11_clear : MethodName := ⟨RX11, "clear", "()I"⟩
abbrev cX11_isSpace : ByteArray := prog_1_method_27_code
def yX11_isSpace : MethodName := ⟨RX11, "isSpace", "(I)Z"⟩
abbrev cX11_bit : ByteArray := prog_1_method_28_code
def yX11_bit : MethodName := ⟨RX11, "bit", "(I)J"⟩
abbrev cX11_refusalOfFile : ByteArray := prog_1_method_29_code
def yX11_refusalOfFile : MethodName := ⟨RX11, "refusalOfFile", "(II)I"⟩
abbrev cX11_refusalOfSource : ByteArray := prog_1_method_30_code
def yX11_refusalOfSource : MethodName := ⟨RX11, "refusalOfSource", "(II)I"⟩
abbrev cX11_carryOut : ByteArray := prog_1_method_31_code
def yX11_carryOut : MethodName := ⟨RX11, "carryOut", "(II)V"⟩
def RX12 : String := "BuildCacheModel"
def TX12 : u_T := fun k => match k with
  | 0 => ("BuildCacheModel", "paths", "I", false)
  | 1 => ("BuildCacheModel", "parent", "[I", true)
  | 2 => ("BuildCacheModel", "name", "[I", true)
  | 3 => ("BuildCacheModel", "isDirectory", "[Z", true)
  | 4 => ("BuildCacheModel", "maker", "[I", true)
  | 5 => ("BuildCacheModel", "size", "[I", true)
  | 6 => ("BuildCacheModel", "bytes", "[I", true)
  | 7 => ("BuildCacheModel", "tape", "[I", true)
  | 8 => ("BuildCacheModel", "tapeSize", "I", false)
  | 9 => ("BuildCacheModel", "actions", "I", false)
  | 10 => ("BuildCacheModel", "input", "[I", true)
  | 11 => ("BuildCacheModel", "inputs", "[I", true)
  | 12 => ("BuildCacheModel", "output", "[I", true)
  | 13 => ("BuildCacheModel", "outputs", "[I", true)
  | 14 => ("BuildCacheModel", "stepNumber", "[I", true)
  | 15 => ("BuildCacheModel", "stepValue", "[I", true)
  | 16 => ("BuildCacheModel", "steps", "[I", true)
  | 17 => ("BuildCacheModel", "wasDone", "[Z", true)
  | 18 => ("BuildCacheModel", "wasRow", "[I", true)
  | 19 => ("BuildCacheModel", "wasStart", "[I", true)
  | 20 => ("BuildCacheModel", "capacity", "I", false)
  | 21 => ("BuildCacheModel", "entries", "I", false)
  | 22 => ("BuildCacheModel", "row", "[I", true)
  | 23 => ("BuildCacheModel", "taken", "[Z", true)
  | 24 => ("BuildCacheModel", "entryRow", "[I", true)
  | 25 => ("BuildCacheModel", "entryRowSize", "[I", true)
  | 26 => ("BuildCacheModel", "entrySize", "[I", true)
  | 27 => ("BuildCacheModel", "entryFailure", "[I", true)
  | 28 => ("BuildCacheModel", "entryFound", "[I", true)
  | 29 => ("BuildCacheModel", "entryOutputs", "[I", true)
  | 30 => ("BuildCacheModel", "entryLength", "[I", true)
  | 31 => ("BuildCacheModel", "entryBytes", "[I", true)
  | 32 => ("BuildCacheModel", "dones", "I", false)
  | 33 => ("BuildCacheModel", "doneAction", "[I", true)
  | 34 => ("BuildCacheModel", "doneRun", "[I", true)
  | 35 => ("BuildCacheModel", "doneFailure", "[I", true)
  | 36 => ("BuildCacheModel", "doneChanged", "[I", true)
  | 37 => ("BuildCacheModel", "ran", "I", false)
  | 38 => ("BuildCacheModel", "found", "I", false)
  | 39 => ("BuildCacheModel", "evicted", "I", false)
  | 40 => ("BuildCacheModel", "builds", "I", false)
  | 41 => ("BuildCacheModel", "reached", "[Z", true)
  | 42 => ("BuildCacheModel", "now", "[I", true)
  | 43 => ("BuildCacheModel", "nowSize", "I", false)
  | 44 => ("BuildCacheModel", "nowStart", "[I", true)
  | 45 => ("BuildCacheModel", "listed", "[I", true)
  | 46 => ("BuildCacheModel", "listedMany", "I", false)
  | 47 => ("BuildCacheModel", "work", "[I", true)
  | 48 => ("BuildCacheModel", "workSize", "I", false)
  | 49 => ("BuildCacheModel", "failure", "I", false)
  | 50 => ("BuildCacheModel", "cameLength", "[I", true)
  | 51 => ("BuildCacheModel", "cameBytes", "[I", true)
  | 52 => ("BuildCacheModel", "needed", "[Z", true)
  | _ => ("BuildCacheModel", "isDone", "[Z", true)
def tyX12 : Nat → FieldType := fun k => match k with
  | 0 => .int
  | 1 => .array .int
  | 2 => .array .int
  | 3 => .array .boolean
  | 4 => .array .int
  | 5 => .array .int
  | 6 => .array .int
  | 7 => .array .int
  | 8 => .int
  | 9 => .int
  | 10 => .array .int
  | 11 => .array .int
  | 12 => .array .int
  | 13 => .array .int
  | 14 => .array .int
  | 15 => .array .int
  | 16 => .array .int
  | 17 => .array .boolean
  | 18 => .array .int
  | 19 => .array .int
  | 20 => .int
  | 21 => .int
  | 22 => .array .int
  | 23 => .array .boolean
  | 24 => .array .int
  | 25 => .array .int
  | 26 => .array .int
  | 27 => .array .int
  | 28 => .array .int
  | 29 => .array .int
  | 30 => .array .int
  | 31 => .array .int
  | 32 => .int
  | 33 => .array .int
  | 34 => .array .int
  | 35 => .array .int
  | 36 => .array .int
  | 37 => .int
  | 38 => .int
  | 39 => .int
  | 40 => .int
  | 41 => .array .boolean
  | 42 => .array .int
  | 43 => .int
  | 44 => .array .int
  | 45 => .array .int
  | 46 => .int
  | 47 => .array .int
  | 48 => .int
  | 49 => .int
  | 50 => .array .int
  | 51 => .array .int
  | 52 => .array .boolean
  | _ => .array .boolean
theorem nmX12 : ∀ a, a < 54 → ∀ b, b < 54 → a ≠ b → (TX12 a).2.1 ≠ (TX12 b).2.1 := by decide +kernel
theorem tyX12_ok : ∀ k, k < 54 → parseFieldDescriptor (TX12 k).2.2.1 = some (tyX12 k) := by decide +kernel
abbrev cX12_init : ByteArray := prog_14_method_1_code
def yX12_init : MethodName := ⟨RX12, "<init>", "()V"⟩
abbrev cX12_in : ByteArray := prog_14_method_2_code
def yX12_in : MethodName := ⟨RX12, "in", "(III)Z"⟩
abbrev cX12_isPath : ByteArray := prog_14_method_3_code
def yX12_isPath : MethodName := ⟨RX12, "isPath", "(I)Z"⟩
abbrev cX12_isAction : ByteArray := prog_14_method_4_code
def yX12_isAction : MethodName := ⟨RX12, "isAction", "(I)Z"⟩
abbrev cX12_path : ByteArray := prog_14_method_5_code
def yX12_path : MethodName := ⟨RX12, "path", "(IIZ)I"⟩
abbrev cX12_of : ByteArray := prog_14_method_6_code
def yX12_of : MethodName := ⟨RX12, "of", "(II)I"⟩
abbrev cX12_feed : ByteArray := prog_14_method_7_code
def yX12_feed : MethodName := ⟨RX12, "feed", "(JI)I"⟩
abbrev cX12_isBadFile : ByteArray := prog_14_method_8_code
def yX12_isBadFile : MethodName := ⟨RX12, "isBadFile", "(II)Z"⟩
abbrev cX12_isSource : ByteArray := prog_14_method_9_code
def yX12_isSource : MethodName := ⟨RX12, "isSource", "(I)Z"⟩
abbrev cX12_write : ByteArray := prog_14_method_10_code
def yX12_write : MethodName := ⟨RX12, "write", "(II)I"⟩
abbrev cX12_remove : ByteArray := prog_14_method_11_code
def yX12_remove : MethodName := ⟨RX12, "remove", "(II)I"⟩
abbrev cX12_isAlike : ByteArray := prog_14_method_12_code
def yX12_isAlike : MethodName := ⟨RX12, "isAlike", "(III)Z"⟩
abbrev cX12_copyFile : ByteArray := prog_14_method_13_code
def yX12_copyFile : MethodName := ⟨RX12, "copyFile", "(III)V"⟩
abbrev cX12_copy : ByteArray := prog_14_method_14_code
def yX12_copy : MethodName := ⟨RX12, "copy", "(I)I"⟩
abbrev cX12_length : ByteArray := prog_14_method_15_code
def yX12_length : MethodName := ⟨RX12, "length", "(II)I"⟩
abbrev cX12_byteAt : ByteArray := prog_14_method_16_code
def yX12_byteAt : MethodName := ⟨RX12, "byteAt", "(III)I"⟩
abbrev cX12_action : ByteArray := prog_14_method_17_code
def yX12_action : MethodName := ⟨RX12, "action", "()I"⟩
abbrev cX12_isUsed : ByteArray := prog_14_method_18_code
def yX12_isUsed : MethodName := ⟨RX12, "isUsed", "(II)Z"⟩
abbrev cX12_reach : ByteArray := prog_14_method_19_code
def yX12_reach : MethodName := ⟨RX12, "reach", "(I)V"⟩
abbrev cX12_isCircle : ByteArray := prog_14_method_20_code
def yX12_isCircle : MethodName := ⟨RX12, "isCircle", "(I)Z"⟩
abbrev cX12_input : ByteArray := prog_14_method_21_code
def yX12_input : MethodName := ⟨RX12, "input", "(II)I"⟩
abbrev cX12_comesToItself : ByteArray := prog_14_method_22_code
def yX12_comesToItself : MethodName := ⟨RX12, "comesToItself", "(IIZ)Z"⟩
abbrev cX12_output : ByteArray := prog_14_method_23_code
def yX12_output : MethodName := ⟨RX12, "output", "(II)I"⟩
abbrev cX12_step : ByteArray := prog_14_method_24_code
def yX12_step : MethodName := ⟨RX12, "step", "(III)I"⟩
abbrev cX12_erase : ByteArray := prog_14_method_25_code
def yX12_erase : MethodName := ⟨RX12, "erase", "(I)I"⟩
abbrev cX12_about : ByteArray := prog_14_method_26_code
def yX12_about : MethodName := ⟨RX12, "about", "(II)I"⟩
abbrev cX12_uses : ByteArray := prog_14_method_27_code
def yX12_uses : MethodName := ⟨RX12, "uses", "(II)I"⟩
abbrev cX12_mix : ByteArray := prog_14_method_28_code
def yX12_mix : MethodName := ⟨RX12, "mix", "(I)V"⟩
abbrev cX12_mixHead : ByteArray := prog_14_method_29_code
def yX12_mixHead : MethodName := ⟨RX12, "mixHead", "(I)V"⟩
abbrev cX12_list : ByteArray := prog_14_method_30_code
def yX12_list : MethodName := ⟨RX12, "list", "(II)V"⟩
abbrev cX12_mixPart : ByteArray := prog_14_method_31_code
def yX12_mixPart : MethodName := ⟨RX12, "mixPart", "(II)V"⟩
abbrev cX12_layKey : ByteArray := prog_14_method_32_code
def yX12_layKey : MethodName := ⟨RX12, "layKey", "(II)V"⟩
abbrev cX12_signOf : ByteArray := prog_14_method_33_code
def yX12_signOf : MethodName := ⟨RX12, "signOf", "([III)J"⟩
abbrev cX12_key : ByteArray := prog_14_method_34_code
def yX12_key : MethodName := ⟨RX12, "key", "(II)J"⟩
abbrev cX12_isRow : ByteArray := prog_14_method_35_code
def yX12_isRow : MethodName := ⟨RX12, "isRow", "(II[III)Z"⟩
abbrev cX12_changedOf : ByteArray := prog_14_method_36_code
def yX12_changedOf : MethodName := ⟨RX12, "changedOf", "(II)I"⟩
abbrev cX12_changed : ByteArray := prog_14_method_37_code
def yX12_changed : MethodName := ⟨RX12, "changed", "(II)I"⟩
abbrev cX12_note : ByteArray := prog_14_method_38_code
def yX12_note : MethodName := ⟨RX12, "note", "(II)V"⟩
abbrev cX12_add : ByteArray := prog_14_method_39_code
def yX12_add : MethodName := ⟨RX12, "add", "(I)V"⟩
abbrev cX12_figures : ByteArray := prog_14_method_40_code
def yX12_figures : MethodName := ⟨RX12, "figures", "(I)V"⟩
abbrev cX12_read : ByteArray := prog_14_method_41_code
def yX12_read : MethodName := ⟨RX12, "read", "(II)V"⟩
abbrev cX12_listIn : ByteArray := prog_14_method_42_code
def yX12_listIn : MethodName := ⟨RX12, "listIn", "(II)V"⟩
abbrev cX12_writeOut : ByteArray := prog_14_method_43_code
def yX12_writeOut : MethodName := ⟨RX12, "writeOut", "(I)V"⟩
abbrev cX12_turn : ByteArray := prog_14_method_44_code
def yX12_turn : MethodName := ⟨RX12, "turn", "()V"⟩
abbrev cX12_sort : ByteArray := prog_14_method_45_code
def yX12_sort : MethodName := ⟨RX12, "sort", "()V"⟩
abbrev cX12_once : ByteArray := prog_14_method_46_code
def yX12_once : MethodName := ⟨RX12, "once", "()V"⟩
abbrev cX12_twice : ByteArray := prog_14_method_47_code
def yX12_twice : MethodName := ⟨RX12, "twice", "()V"⟩
abbrev cX12_sum : ByteArray := prog_14_method_48_code
def yX12_sum : MethodName := ⟨RX12, "sum", "()I"⟩
abbrev cX12_mixWith : ByteArray := prog_14_method_49_code
def yX12_mixWith : MethodName := ⟨RX12, "mixWith", "(I)V"⟩
abbrev cX12_alone : ByteArray := prog_14_method_50_code
def yX12_alone : MethodName := ⟨RX12, "alone", "(II)V"⟩
abbrev cX12_play : ByteArray := prog_14_method_51_code
def yX12_play : MethodName := ⟨RX12, "play", "(II)V"⟩
abbrev cX12_lay : ByteArray := prog_14_method_52_code
def yX12_lay : MethodName := ⟨RX12, "lay", "(II)V"⟩
abbrev cX12_sizes : ByteArray := prog_14_method_53_code
def yX12_sizes : MethodName := ⟨RX12, "sizes", "()I"⟩
abbrev cX12_takeOut : ByteArray := prog_14_method_54_code
def yX12_takeOut : MethodName := ⟨RX12, "takeOut", "(I)V"⟩
abbrev cX12_trim : ByteArray := prog_14_method_55_code
def yX12_trim : MethodName := ⟨RX12, "trim", "(I)I"⟩
abbrev cX12_placeOf : ByteArray := prog_14_method_56_code
def yX12_placeOf : MethodName := ⟨RX12, "placeOf", "()I"⟩
abbrev cX12_enter : ByteArray := prog_14_method_57_code
def yX12_enter : MethodName := ⟨RX12, "enter", "(I)V"⟩
abbrev cX12_use : ByteArray := prog_14_method_58_code
def yX12_use : MethodName := ⟨RX12, "use", "(I)V"⟩
abbrev cX12_need : ByteArray := prog_14_method_59_code
def yX12_need : MethodName := ⟨RX12, "need", "(I)V"⟩
abbrev cX12_next : ByteArray := prog_14_method_60_code
def yX12_next : MethodName := ⟨RX12, "next", "()I"⟩
abbrev cX12_does : ByteArray := prog_14_method_61_code
def yX12_does : MethodName := ⟨RX12, "does", "(II)V"⟩
abbrev cX12_build : ByteArray := prog_14_method_62_code
def yX12_build : MethodName := ⟨RX12, "build", "(II)I"⟩
abbrev cX12_done : ByteArray := prog_14_method_63_code
def yX12_done : MethodName := ⟨RX12, "done", "(II)I"⟩
abbrev cX12_isClean : ByteArray := prog_14_method_64_code
def yX12_isClean : MethodName := ⟨RX12, "isClean", "(I)I"⟩
abbrev cX12_capacity : ByteArray := prog_14_method_65_code
def yX12_capacity : MethodName := ⟨RX12, "capacity", "(I)I"⟩
abbrev cX12_entry : ByteArray := prog_14_method_66_code
def yX12_entry : MethodName := ⟨RX12, "entry", "(II)J"⟩
abbrev cX12_forget : ByteArray := prog_14_method_67_code
def yX12_forget : MethodName := ⟨RX12, "forget", "()I"⟩
abbrev cX12_count : ByteArray := prog_14_method_68_code
def yX12_count : MethodName := ⟨RX12, "count", "(I)I"⟩
abbrev cX12_clear : ByteArray := prog_14_method_69_code
def yX12_clear : MethodName := ⟨RX12, "clear", "()I"⟩
def RJx145de : String := "java/io/Serializable"
def TJx145de : u_T := fun k => match k with
  | _ => ("", "", "", false)
def tyJx145de : Nat → FieldType := fun k => match k with
  | _ => .int
theorem nmJx145de : ∀ a, a < 0 → ∀ b, b < 0 → a ≠ b → (TJx145de a).2.1 ≠ (TJx145de b).2.1 := by decide +kernel
theorem tyJx145de_ok : ∀ k, k < 0 → parseFieldDescriptor (TJx145de k).2.2.1 = some (tyJx145de k) := by decide +kernel
def RJx8e188 : String := "java/lang/Cloneable"
def TJx8e188 : u_T := fun k => match k with
  | _ => ("", "", "", false)
def tyJx8e188 : Nat → FieldType := fun k => match k with
  | _ => .int
theorem nmJx8e188 : ∀ a, a < 0 → ∀ b, b < 0 → a ≠ b → (TJx8e188 a).2.1 ≠ (TJx8e188 b).2.1 := by decide +kernel
theorem tyJx8e188_ok : ∀ k, k < 0 → parseFieldDescriptor (TJx8e188 k).2.2.1 = some (tyJx8e188 k) := by decide +kernel
def RJxab1ab : String := "java/lang/Iterable"
def TJxab1ab : u_T := fun k => match k with
  | _ => ("", "", "", false)
def tyJxab1ab : Nat → FieldType := fun k => match k with
  | _ => .int
theorem nmJxab1ab : ∀ a, a < 0 → ∀ b, b < 0 → a ≠ b → (TJxab1ab a).2.1 ≠ (TJxab1ab b).2.1 := by decide +kernel
theorem tyJxab1ab_ok : ∀ k, k < 0 → parseFieldDescriptor (TJxab1ab k).2.2.1 = some (tyJxab1ab k) := by decide +kernel
def RJ13 : String := "java/lang/Long"
def TJ13 : u_T := fun k => match k with
  | _ => ("", "", "", false)
def tyJ13 : Nat → FieldType := fun k => match k with
  | _ => .int
theorem nmJ13 : ∀ a, a < 0 → ∀ b, b < 0 → a ≠ b → (TJ13 a).2.1 ≠ (TJ13 b).2.1 := by decide +kernel
theorem tyJ13_ok : ∀ k, k < 0 → parseFieldDescriptor (TJ13 k).2.2.1 = some (tyJ13 k) := by decide +kernel
abbrev cJ13_bitCount_95d88 : ByteArray := prog_18_method_50_code
def yJ13_bitCount_95d88 : MethodName := ⟨RJ13, "bitCount", "(J)I"⟩
def RJ9 : String := "java/lang/Math"
def TJ9 : u_T := fun k => match k with
  | _ => ("", "", "", false)
def tyJ9 : Nat → FieldType := fun k => match k with
  | _ => .int
theorem nmJ9 : ∀ a, a < 0 → ∀ b, b < 0 → a ≠ b → (TJ9 a).2.1 ≠ (TJ9 b).2.1 := by decide +kernel
theorem tyJ9_ok : ∀ k, k < 0 → parseFieldDescriptor (TJ9 k).2.2.1 = some (tyJ9 k) := by decide +kernel
abbrev cJ9_max_7cf53 : ByteArray := prog_19_method_65_code
def yJ9_max_7cf53 : MethodName := ⟨RJ9, "max", "(II)I"⟩
abbrev cJ9_min_7cf53 : ByteArray := prog_19_method_69_code
def yJ9_min_7cf53 : MethodName := ⟨RJ9, "min", "(II)I"⟩
def RJ10 : String := "java/lang/System"
def TJ10 : u_T := fun k => match k with
  | _ => ("", "", "", false)
def tyJ10 : Nat → FieldType := fun k => match k with
  | _ => .int
theorem nmJ10 : ∀ a, a < 0 → ∀ b, b < 0 → a ≠ b → (TJ10 a).2.1 ≠ (TJ10 b).2.1 := by decide +kernel
theorem tyJ10_ok : ∀ k, k < 0 → parseFieldDescriptor (TJ10 k).2.2.1 = some (tyJ10 k) := by decide +kernel
def RJxa1e45 : String := "java/util/AbstractCollection"
def TJxa1e45 : u_T := fun k => match k with
  | _ => ("", "", "", false)
def tyJxa1e45 : Nat → FieldType := fun k => match k with
  | _ => .int
theorem nmJxa1e45 : ∀ a, a < 0 → ∀ b, b < 0 → a ≠ b → (TJxa1e45 a).2.1 ≠ (TJxa1e45 b).2.1 := by decide +kernel
theorem tyJxa1e45_ok : ∀ k, k < 0 → parseFieldDescriptor (TJxa1e45 k).2.2.1 = some (tyJxa1e45 k) := by decide +kernel
abbrev cJxa1e45_init_da8c8 : ByteArray := prog_21_method_1_code
def yJxa1e45_init_da8c8 : MethodName := ⟨RJxa1e45, "<init>", "()V"⟩
def RJxc12de : String := "java/util/AbstractList"
def TJxc12de : u_T := fun k => match k with
  | _ => ("", "", "", false)
def tyJxc12de : Nat → FieldType := fun k => match k with
  | _ => .int
theorem nmJxc12de : ∀ a, a < 0 → ∀ b, b < 0 → a ≠ b → (TJxc12de a).2.1 ≠ (TJxc12de b).2.1 := by decide +kernel
theorem tyJxc12de_ok : ∀ k, k < 0 → parseFieldDescriptor (TJxc12de k).2.2.1 = some (tyJxc12de k) := by decide +kernel
abbrev cJxc12de_init_da8c8 : ByteArray := prog_22_method_1_code
def yJxc12de_init_da8c8 : MethodName := ⟨RJxc12de, "<init>", "()V"⟩
def RJx4a65c : String := "java/util/ArrayList"
def TJx4a65c : u_T := fun k => match k with
  | 0 => ("java/util/AbstractList", "modCount", "I", false)
  | 1 => ("java/util/ArrayList", "elementData", "[Ljava/lang/Object;", false)
  | _ => ("java/util/ArrayList", "size", "I", false)
def tyJx4a65c : Nat → FieldType := fun k => match k with
  | 0 => .int
  | 1 => .array (.object "java/lang/Object")
  | _ => .int
theorem nmJx4a65c : ∀ a, a < 3 → ∀ b, b < 3 → a ≠ b → (TJx4a65c a).2.1 ≠ (TJx4a65c b).2.1 := by decide +kernel
theorem tyJx4a65c_ok : ∀ k, k < 3 → parseFieldDescriptor (TJx4a65c k).2.2.1 = some (tyJx4a65c k) := by decide +kernel
abbrev cJx4a65c_init_da8c8 : ByteArray := prog_23_method_2_code
def yJx4a65c_init_da8c8 : MethodName := ⟨RJx4a65c, "<init>", "()V"⟩
abbrev cJx4a65c_grow_92f84 : ByteArray := prog_23_method_6_code
def yJx4a65c_grow_92f84 : MethodName := ⟨RJx4a65c, "grow", "(I)[Ljava/lang/Object;"⟩
abbrev cJx4a65c_grow_d5877 : ByteArray := prog_23_method_7_code
def yJx4a65c_grow_d5877 : MethodName := ⟨RJx4a65c, "grow", "()[Ljava/lang/Object;"⟩
abbrev cJx4a65c_size_8abf5 : ByteArray := prog_23_method_8_code
def yJx4a65c_size_8abf5 : MethodName := ⟨RJx4a65c, "size", "()I"⟩
abbrev cJx4a65c_isEmpty_aae02 : ByteArray := prog_23_method_9_code
def yJx4a65c_isEmpty_aae02 : MethodName := ⟨RJx4a65c, "isEmpty", "()Z"⟩
abbrev cJx4a65c_elementData_915e3 : ByteArray := prog_23_method_18_code
def yJx4a65c_elementData_915e3 : MethodName := ⟨RJx4a65c, "elementData", "(I)Ljava/lang/Object;"⟩
abbrev cJx4a65c_get_915e3 : ByteArray := prog_23_method_20_code
def yJx4a65c_get_915e3 : MethodName := ⟨RJx4a65c, "get", "(I)Ljava/lang/Object;"⟩
abbrev cJx4a65c_add_72be8 : ByteArray := prog_23_method_24_code
def yJx4a65c_add_72be8 : MethodName := ⟨RJx4a65c, "add", "(Ljava/lang/Object;[Ljava/lang/Object;I)V"⟩
abbrev cJx4a65c_add_9ea2d : ByteArray := prog_23_method_25_code
def yJx4a65c_add_9ea2d : MethodName := ⟨RJx4a65c, "add", "(Ljava/lang/Object;)Z"⟩
abbrev cJx4a65c_add_7a177 : ByteArray := prog_23_method_26_code
def yJx4a65c_add_7a177 : MethodName := ⟨RJx4a65c, "add", "(ILjava/lang/Object;)V"⟩
abbrev cJx4a65c_remove_915e3 : ByteArray := prog_23_method_29_code
def yJx4a65c_remove_915e3 : MethodName := ⟨RJx4a65c, "remove", "(I)Ljava/lang/Object;"⟩
abbrev cJx4a65c_fastRemove_b59b0 : ByteArray := prog_23_method_39_code
def yJx4a65c_fastRemove_b59b0 : MethodName := ⟨RJx4a65c, "fastRemove", "([Ljava/lang/Object;I)V"⟩
abbrev cJx4a65c_clear_da8c8 : ByteArray := prog_23_method_40_code
def yJx4a65c_clear_da8c8 : MethodName := ⟨RJx4a65c, "clear", "()V"⟩
abbrev cJx4a65c_rangeCheckForAdd_d00df : ByteArray := prog_23_method_45_code
def yJx4a65c_rangeCheckForAdd_d00df : MethodName := ⟨RJx4a65c, "rangeCheckForAdd", "(I)V"⟩
def RJ7 : String := "java/util/Arrays"
def TJ7 : u_T := fun k => match k with
  | _ => ("", "", "", false)
def tyJ7 : Nat → FieldType := fun k => match k with
  | _ => .int
theorem nmJ7 : ∀ a, a < 0 → ∀ b, b < 0 → a ≠ b → (TJ7 a).2.1 ≠ (TJ7 b).2.1 := by decide +kernel
theorem tyJ7_ok : ∀ k, k < 0 → parseFieldDescriptor (TJ7 k).2.2.1 = some (tyJ7 k) := by decide +kernel
abbrev cJ7_copyOf_1904c : ByteArray := prog_24_method_119_code
def yJ7_copyOf_1904c : MethodName := ⟨RJ7, "copyOf", "([Ljava/lang/Object;I)[Ljava/lang/Object;"⟩
abbrev cJ7_copyOf_6403c : ByteArray := prog_24_method_120_code
def yJ7_copyOf_6403c : MethodName := ⟨RJ7, "copyOf", "([Ljava/lang/Object;ILjava/lang/Class;)[Ljava/lang/Object;"⟩
def RJx5ef63 : String := "java/util/Collection"
def TJx5ef63 : u_T := fun k => match k with
  | _ => ("", "", "", false)
def tyJx5ef63 : Nat → FieldType := fun k => match k with
  | _ => .int
theorem nmJx5ef63 : ∀ a, a < 0 → ∀ b, b < 0 → a ≠ b → (TJx5ef63 a).2.1 ≠ (TJx5ef63 b).2.1 := by decide +kernel
theorem tyJx5ef63_ok : ∀ k, k < 0 → parseFieldDescriptor (TJx5ef63 k).2.2.1 = some (tyJx5ef63 k) := by decide +kernel
def RJxbd725 : String := "java/util/List"
def TJxbd725 : u_T := fun k => match k with
  | _ => ("", "", "", false)
def tyJxbd725 : Nat → FieldType := fun k => match k with
  | _ => .int
theorem nmJxbd725 : ∀ a, a < 0 → ∀ b, b < 0 → a ≠ b → (TJxbd725 a).2.1 ≠ (TJxbd725 b).2.1 := by decide +kernel
theorem tyJxbd725_ok : ∀ k, k < 0 → parseFieldDescriptor (TJxbd725 k).2.2.1 = some (tyJxbd725 k) := by decide +kernel
def RJ15 : String := "java/util/Objects"
def TJ15 : u_T := fun k => match k with
  | _ => ("", "", "", false)
def tyJ15 : Nat → FieldType := fun k => match k with
  | _ => .int
theorem nmJ15 : ∀ a, a < 0 → ∀ b, b < 0 → a ≠ b → (TJ15 a).2.1 ≠ (TJ15 b).2.1 := by decide +kernel
theorem tyJ15_ok : ∀ k, k < 0 → parseFieldDescriptor (TJ15 k).2.2.1 = some (tyJ15 k) := by decide +kernel
abbrev cJ15_checkIndex_7cf53 : ByteArray := prog_27_method_17_code
def yJ15_checkIndex_7cf53 : MethodName := ⟨RJ15, "checkIndex", "(II)I"⟩
def RJxf0a74 : String := "java/util/RandomAccess"
def TJxf0a74 : u_T := fun k => match k with
  | _ => ("", "", "", false)
def tyJxf0a74 : Nat → FieldType := fun k => match k with
  | _ => .int
theorem nmJxf0a74 : ∀ a, a < 0 → ∀ b, b < 0 → a ≠ b → (TJxf0a74 a).2.1 ≠ (TJxf0a74 b).2.1 := by decide +kernel
theorem tyJxf0a74_ok : ∀ k, k < 0 → parseFieldDescriptor (TJxf0a74 k).2.2.1 = some (tyJxf0a74 k) := by decide +kernel
def RJxa66e6 : String := "java/util/SequencedCollection"
def TJxa66e6 : u_T := fun k => match k with
  | _ => ("", "", "", false)
def tyJxa66e6 : Nat → FieldType := fun k => match k with
  | _ => .int
theorem nmJxa66e6 : ∀ a, a < 0 → ∀ b, b < 0 → a ≠ b → (TJxa66e6 a).2.1 ≠ (TJxa66e6 b).2.1 := by decide +kernel
theorem tyJxa66e6_ok : ∀ k, k < 0 → parseFieldDescriptor (TJxa66e6 k).2.2.1 = some (tyJxa66e6 k) := by decide +kernel
def RJ8 : String := "jdk/internal/util/ArraysSupport"
def TJ8 : u_T := fun k => match k with
  | _ => ("", "", "", false)
def tyJ8 : Nat → FieldType := fun k => match k with
  | _ => .int
theorem nmJ8 : ∀ a, a < 0 → ∀ b, b < 0 → a ≠ b → (TJ8 a).2.1 ≠ (TJ8 b).2.1 := by decide +kernel
theorem tyJ8_ok : ∀ k, k < 0 → parseFieldDescriptor (TJ8 k).2.2.1 = some (tyJ8 k) := by decide +kernel
abbrev cJ8_newLength_cabcc : ByteArray := prog_30_method_27_code
def yJ8_newLength_cabcc : MethodName := ⟨RJ8, "newLength", "(III)I"⟩
abbrev cJ8_hugeLength_7cf53 : ByteArray := prog_30_method_28_code
def yJ8_hugeLength_7cf53 : MethodName := ⟨RJ8, "hugeLength", "(II)I"⟩
def RJ3 : String := "jdk/internal/util/Preconditions"
def TJ3 : u_T := fun k => match k with
  | _ => ("", "", "", false)
def tyJ3 : Nat → FieldType := fun k => match k with
  | _ => .int
theorem nmJ3 : ∀ a, a < 0 → ∀ b, b < 0 → a ≠ b → (TJ3 a).2.1 ≠ (TJ3 b).2.1 := by decide +kernel
theorem tyJ3_ok : ∀ k, k < 0 → parseFieldDescriptor (TJ3 k).2.2.1 = some (tyJ3 k) := by decide +kernel
abbrev cJ3_checkIndex_8e157 : ByteArray := prog_31_method_11_code
def yJ3_checkIndex_8e157 : MethodName := ⟨RJ3, "checkIndex", "(IILjava/util/function/BiFunction;)I"⟩
def RL : String := "BuildCacheLaw"
abbrev cL_law : ByteArray := code
def yL_law : MethodName := ⟨RL, "law", "([I)Z"⟩
end
section
/-! the classes, their fields; the methods and their code, with what each instruction links: written by program out of the names, the decode rows and the tables -/
abbrev zE : Type := Nat × Instr × Nat × Nat × Int
def cNl : List String := ["BuildCache$Action", "BuildCache$Cache", "BuildCache$Content", "BuildCache$Entry", "BuildCache$Graph", "BuildCache$Key", "BuildCache$Log", "BuildCache$Outcome", "BuildCache$Path", "BuildCache$Runner", "BuildCache$Tree", "BuildCache", "BuildCacheModel", "java/util/ArrayList", "java/util/AbstractList", "java/util/AbstractCollection", "java/util/Arrays", "java/util/Objects", "jdk/internal/util/Preconditions", "jdk/internal/util/ArraysSupport", "java/lang/Long", "java/lang/Math", "java/lang/System", "java/lang/Object", "BuildCacheLaw"]
def cNm (i : Nat) : String := cNl.getD i ""
abbrev classes : List vw_C := [(RX0, TX0, 7), (RX1, TX1, 5), (RX2, TX2, 2), (RX3, TX3, 4), (RX4, TX4, 1), (RX5, TX5, 5), (RX6, TX6, 5), (RX7, TX7, 3), (RX8, TX8, 7), (RX9, TX9, 2), (RX10, TX10, 1), (RX11, TX11, 8), (RX12, TX12, 54), (RJx4a65c, TJx4a65c, 3)]
def cRow (i : Nat) : vw_C := classes.getD i ("", fun _ => ("", "", "", false), 0)
/-- a field: 0 an int, 1 a long, 2 a reference, 3 a boolean -/
def fTl : List (List Nat) := [[2, 2, 2, 2, 2, 0, 1], [2, 2, 0, 0, 0], [2, 0], [2, 2, 1, 0], [2], [2, 2, 0, 0, 0], [2, 0, 0, 0, 0], [2, 0, 0], [0, 0, 0, 3, 2, 2, 0], [2, 3], [2], [2, 2, 2, 2, 2, 2, 2, 2], [0, 2, 2, 2, 2, 2, 2, 2, 0, 0, 2, 2, 2, 2, 2, 2, 2, 2, 2, 2, 0, 0, 2, 2, 2, 2, 2, 2, 2, 2, 2, 2, 0, 2, 2, 2, 2, 0, 0, 0, 0, 2, 2, 0, 2, 2, 0, 2, 0, 0, 2, 2, 2, 2], [0, 2, 0]]
def fTy (c k : Nat) : Nat := (fTl.getD c []).getD k 0
/-- a place where an array is made: what its cells hold -/
def siteTy (t : Nat) : FieldType := if t = 6 ∨ t = 7 then .object "BuildCache$Content" else if t = 8 then .object "BuildCache$Key" else if t = 9 then .array .int else if t = 11 then .object "java/lang/Object" else if t = 23 ∨ t = 37 ∨ t = 43 ∨ t = 61 ∨ t = 72 ∨ t = 73 then .boolean else .int
def zc_0 : List zE := [(0, .aload_n 0, 0, 0, 0), (1, .invokespecial 3, 0, 5, 0), (4, .aload_n 0, 0, 0, 0), (5, .new 9, 13, 0, 0), (8, .dup, 0, 0, 0), (9, .invokespecial 11, 184, 2, 0), (12, .putfield 12, 0, 0, 0), (15, .aload_n 0, 0, 0, 0), (16, .new 9, 13, 0, 0), (19, .dup, 0, 0, 0), (20, .invokespecial 11, 184, 2, 0), (23, .putfield 18, 0, 1, 0), (26, .aload_n 0, 0, 0, 0), (27, .bipush 16, 0, 0, 0), (29, .newarray .int, 4, 0, 0), (31, .putfield 21, 0, 2, 0), (34, .aload_n 0, 0, 0, 0), (35, .bipush 16, 0, 0, 0), (37, .newarray .int, 5, 0, 0), (39, .putfield 25, 0, 3, 0), (42, .aload_n 0, 0, 0, 0), (43, .iconst 2, 0, 0, 0), (44, .anewarray 28, 8, 0, 0), (47, .putfield 30, 0, 4, 0), (50, .aload_n 0, 0, 0, 0), (51, .iconst 0, 0, 0, 0), (52, .putfield 34, 0, 5, 0), (55, .aload_n 0, 0, 0, 0), (56, .lconst 0, 0, 0, 0), (57, .putfield 38, 0, 6, 0), (60, .iconst 0, 0, 0, 0), (61, .istore_n 1, 0, 0, 0), (62, .iload_n 1, 0, 0, 0), (63, .aload_n 0, 0, 0, 0), (64, .getfield 30, 0, 4, 0), (67, .arraylength, 0, 0, 0), (68, .if_icmp .ge 22, 0, 0, 0), (71, .aload_n 0, 0, 0, 0), (72, .getfield 30, 0, 4, 0), (75, .iload_n 1, 0, 0, 0), (76, .new 28, 5, 0, 0), (79, .dup, 0, 0, 0), (80, .invokespecial 42, 40, 3, 0), (83, .aastore, 0, 0, 0), (84, .iinc 1 1, 0, 0, 0), (87, .goto (-25), 0, 0, 0), (90, .return_, 0, 0, 0)]
def zc_1 : List zE := [(0, .iconst 0, 0, 0, 0), (1, .istore_n 2, 0, 0, 0), (2, .iload_n 2, 0, 0, 0), (3, .aload_n 0, 0, 0, 0), (4, .getfield 12, 0, 0, 0), (7, .invokevirtual 43, 187, 0, 0), (10, .if_icmp .ge 29, 0, 0, 0), (13, .aload_n 0, 0, 0, 0), (14, .getfield 12, 0, 0, 0), (17, .iload_n 2, 0, 0, 0), (18, .invokevirtual 47, 190, 0, 1), (21, .checkcast 51, 8, 0, 0), (24, .getfield 53, 8, 0, 0), (27, .iload_n 1, 0, 0, 0), (28, .if_icmp .ne 5, 0, 0, 0), (31, .iconst 1, 0, 0, 0), (32, .ireturn, 0, 0, 0), (33, .iinc 2 1, 0, 0, 0), (36, .goto (-34), 0, 0, 0), (39, .iconst 0, 0, 0, 0), (40, .ireturn, 0, 0, 0)]
def zc_2 : List zE := [(0, .aload_n 0, 0, 0, 0), (1, .getfield 34, 0, 5, 0), (4, .bipush 16, 0, 0, 0), (6, .if_icmp .lt 6, 0, 0, 0), (9, .bipush (-6), 0, 0, 0), (11, .ireturn, 0, 0, 0), (12, .aload_n 0, 0, 0, 0), (13, .getfield 21, 0, 2, 0), (16, .aload_n 0, 0, 0, 0), (17, .getfield 34, 0, 5, 0), (20, .iload_n 1, 0, 0, 0), (21, .iastore, 0, 0, 0), (22, .aload_n 0, 0, 0, 0), (23, .getfield 25, 0, 3, 0), (26, .aload_n 0, 0, 0, 0), (27, .getfield 34, 0, 5, 0), (30, .iload_n 2, 0, 0, 0), (31, .iastore, 0, 0, 0), (32, .aload_n 0, 0, 0, 0), (33, .dup, 0, 0, 0), (34, .getfield 34, 0, 5, 0), (37, .iconst 1, 0, 0, 0), (38, .iadd, 0, 0, 0), (39, .putfield 34, 0, 5, 0), (42, .aload_n 0, 0, 0, 0), (43, .getfield 34, 0, 5, 0), (46, .ireturn, 0, 0, 0)]
def zc_3 : List zE := [(0, .aload_n 0, 0, 0, 0), (1, .getfield 34, 0, 5, 0), (4, .istore_n 1, 0, 0, 0), (5, .iconst 0, 0, 0, 0), (6, .istore_n 2, 0, 0, 0), (7, .iload_n 2, 0, 0, 0), (8, .aload_n 0, 0, 0, 0), (9, .getfield 18, 0, 1, 0), (12, .invokevirtual 43, 187, 0, 0), (15, .if_icmp .ge 24, 0, 0, 0), (18, .aload_n 0, 0, 0, 0), (19, .getfield 18, 0, 1, 0), (22, .iload_n 2, 0, 0, 0), (23, .invokevirtual 47, 190, 0, 1), (26, .checkcast 51, 8, 0, 0), (29, .iconst (-1), 0, 0, 0), (30, .invokevirtual 56, 61, 0, 1), (33, .iinc 2 1, 0, 0, 0), (36, .goto (-29), 0, 0, 0), (39, .aload_n 0, 0, 0, 0), (40, .getfield 12, 0, 0, 0), (43, .invokevirtual 60, 196, 0, 0), (46, .aload_n 0, 0, 0, 0), (47, .getfield 18, 0, 1, 0), (50, .invokevirtual 60, 196, 0, 0), (53, .aload_n 0, 0, 0, 0), (54, .iconst 0, 0, 0, 0), (55, .putfield 34, 0, 5, 0), (58, .iload_n 1, 0, 0, 0), (59, .ireturn, 0, 0, 0)]
def zc_4 : List zE := [(0, .iconst 0, 0, 0, 0), (1, .istore_n 3, 0, 0, 0), (2, .iload_n 3, 0, 0, 0), (3, .aload_n 0, 0, 0, 0), (4, .getfield 18, 0, 1, 0), (7, .invokevirtual 43, 187, 0, 0), (10, .if_icmp .ge 39, 0, 0, 0), (13, .iload_n 3, 0, 0, 0), (14, .iconst 3, 0, 0, 0), (15, .if_icmp .ge 34, 0, 0, 0), (18, .aload_n 0, 0, 0, 0), (19, .getfield 18, 0, 1, 0), (22, .iload_n 3, 0, 0, 0), (23, .invokevirtual 47, 190, 0, 1), (26, .checkcast 51, 8, 0, 0), (29, .getfield 63, 8, 4, 0), (32, .iload_n 2, 0, 0, 0), (33, .aaload, 0, 0, 0), (34, .aload_n 1, 0, 0, 0), (35, .getfield 67, 7, 0, 0), (38, .iload_n 3, 0, 0, 0), (39, .aaload, 0, 0, 0), (40, .invokevirtual 70, 17, 0, 1), (43, .iinc 3 1, 0, 0, 0), (46, .goto (-44), 0, 0, 0), (49, .return_, 0, 0, 0)]
def zc_5 : List zE := [(0, .aload_n 0, 0, 0, 0), (1, .invokespecial 3, 0, 5, 0), (4, .aload_n 0, 0, 0, 0), (5, .new 9, 13, 0, 0), (8, .dup, 0, 0, 0), (9, .invokespecial 11, 184, 2, 0), (12, .putfield 12, 1, 0, 0), (15, .aload_n 0, 0, 0, 0), (16, .new 9, 13, 0, 0), (19, .dup, 0, 0, 0), (20, .invokespecial 11, 184, 2, 0), (23, .putfield 18, 1, 1, 0), (26, .aload_n 0, 0, 0, 0), (27, .sipush 1000, 0, 0, 0), (30, .putfield 21, 1, 2, 0), (33, .aload_n 0, 0, 0, 0), (34, .iconst 0, 0, 0, 0), (35, .putfield 25, 1, 3, 0), (38, .aload_n 0, 0, 0, 0), (39, .iconst 0, 0, 0, 0), (40, .putfield 28, 1, 4, 0), (43, .return_, 0, 0, 0)]
def zc_6 : List zE := [(0, .aload_n 0, 0, 0, 0), (1, .invokevirtual 31, 12, 0, 0), (4, .pop, 0, 0, 0), (5, .aload_n 0, 0, 0, 0), (6, .sipush 1000, 0, 0, 0), (9, .putfield 21, 1, 2, 0), (12, .aload_n 0, 0, 0, 0), (13, .iconst 0, 0, 0, 0), (14, .putfield 28, 1, 4, 0), (17, .return_, 0, 0, 0)]
def zc_7 : List zE := [(0, .aload_n 1, 0, 0, 0), (1, .invokevirtual 35, 47, 0, 0), (4, .lstore_n 2, 0, 0, 0), (5, .iconst 0, 0, 0, 0), (6, .istore 4, 0, 0, 0), (8, .iload 4, 0, 0, 0), (10, .aload_n 0, 0, 0, 0), (11, .getfield 12, 1, 0, 0), (14, .invokevirtual 41, 187, 0, 0), (17, .if_icmp .ge 54, 0, 0, 0), (20, .aload_n 0, 0, 0, 0), (21, .getfield 12, 1, 0, 0), (24, .iload 4, 0, 0, 0), (26, .invokevirtual 44, 190, 0, 1), (29, .checkcast 48, 3, 0, 0), (32, .getfield 50, 3, 2, 0), (35, .lload_n 2, 0, 0, 0), (36, .lcmp, 0, 0, 0), (37, .ifCond .ne 28, 0, 0, 0), (40, .aload_n 0, 0, 0, 0), (41, .getfield 12, 1, 0, 0), (44, .iload 4, 0, 0, 0), (46, .invokevirtual 44, 190, 0, 1), (49, .checkcast 48, 3, 0, 0), (52, .getfield 53, 3, 0, 0), (55, .aload_n 1, 0, 0, 0), (56, .invokevirtual 57, 48, 0, 1), (59, .ifCond .eq 6, 0, 0, 0), (62, .iload 4, 0, 0, 0), (64, .ireturn, 0, 0, 0), (65, .iinc 4 1, 0, 0, 0), (68, .goto (-60), 0, 0, 0), (71, .iconst (-1), 0, 0, 0), (72, .ireturn, 0, 0, 0)]
def zc_8 : List zE := [(0, .aload_n 0, 0, 0, 0), (1, .getfield 12, 1, 0, 0), (4, .iload_n 1, 0, 0, 0), (5, .invokevirtual 61, 194, 0, 1), (8, .checkcast 48, 3, 0, 0), (11, .astore_n 2, 0, 0, 0), (12, .aload_n 0, 0, 0, 0), (13, .getfield 12, 1, 0, 0), (16, .aload_n 2, 0, 0, 0), (17, .invokevirtual 64, 192, 0, 1), (20, .pop, 0, 0, 0), (21, .aload_n 2, 0, 0, 0), (22, .dup, 0, 0, 0), (23, .getfield 68, 3, 3, 0), (26, .iconst 1, 0, 0, 0), (27, .iadd, 0, 0, 0), (28, .putfield 68, 3, 3, 0), (31, .aload_n 2, 0, 0, 0), (32, .areturn, 0, 0, 0)]
def zc_9 : List zE := [(0, .aload_n 0, 0, 0, 0), (1, .getfield 18, 1, 1, 0), (4, .invokevirtual 71, 188, 0, 0), (7, .ifCond .eq 13, 0, 0, 0), (10, .new 48, 3, 0, 0), (13, .dup, 0, 0, 0), (14, .invokespecial 75, 27, 3, 0), (17, .goto 22, 0, 0, 0), (20, .aload_n 0, 0, 0, 0), (21, .getfield 18, 1, 1, 0), (24, .aload_n 0, 0, 0, 0), (25, .getfield 18, 1, 1, 0), (28, .invokevirtual 41, 187, 0, 0), (31, .iconst 1, 0, 0, 0), (32, .isub, 0, 0, 0), (33, .invokevirtual 61, 194, 0, 1), (36, .checkcast 48, 3, 0, 0), (39, .astore_n 2, 0, 0, 0), (40, .aload_n 2, 0, 0, 0), (41, .aload_n 1, 0, 0, 0), (42, .invokevirtual 76, 28, 0, 1), (45, .aload_n 2, 0, 0, 0), (46, .areturn, 0, 0, 0)]
def zc_10 : List zE := [(0, .aload_n 0, 0, 0, 0), (1, .getfield 12, 1, 0, 0), (4, .aload_n 1, 0, 0, 0), (5, .invokevirtual 64, 192, 0, 1), (8, .pop, 0, 0, 0), (9, .aload_n 0, 0, 0, 0), (10, .dup, 0, 0, 0), (11, .getfield 25, 1, 3, 0), (14, .aload_n 1, 0, 0, 0), (15, .getfield 80, 3, 1, 0), (18, .invokevirtual 84, 58, 0, 0), (21, .iadd, 0, 0, 0), (22, .putfield 25, 1, 3, 0), (25, .aload_n 0, 0, 0, 0), (26, .invokevirtual 87, 11, 0, 0), (29, .pop, 0, 0, 0), (30, .return_, 0, 0, 0)]
def zc_11 : List zE := [(0, .iconst 0, 0, 0, 0), (1, .istore_n 1, 0, 0, 0), (2, .aload_n 0, 0, 0, 0), (3, .getfield 12, 1, 0, 0), (6, .invokevirtual 71, 188, 0, 0), (9, .ifCond .ne 69, 0, 0, 0), (12, .aload_n 0, 0, 0, 0), (13, .getfield 25, 1, 3, 0), (16, .aload_n 0, 0, 0, 0), (17, .getfield 21, 1, 2, 0), (20, .if_icmp .gt 15, 0, 0, 0), (23, .aload_n 0, 0, 0, 0), (24, .getfield 12, 1, 0, 0), (27, .invokevirtual 41, 187, 0, 0), (30, .bipush 100, 0, 0, 0), (32, .if_icmp .le 46, 0, 0, 0), (35, .aload_n 0, 0, 0, 0), (36, .getfield 12, 1, 0, 0), (39, .iconst 0, 0, 0, 0), (40, .invokevirtual 61, 194, 0, 1), (43, .checkcast 48, 3, 0, 0), (46, .astore_n 2, 0, 0, 0), (47, .aload_n 0, 0, 0, 0), (48, .dup, 0, 0, 0), (49, .getfield 25, 1, 3, 0), (52, .aload_n 2, 0, 0, 0), (53, .getfield 80, 3, 1, 0), (56, .invokevirtual 84, 58, 0, 0), (59, .isub, 0, 0, 0), (60, .putfield 25, 1, 3, 0), (63, .aload_n 0, 0, 0, 0), (64, .getfield 18, 1, 1, 0), (67, .aload_n 2, 0, 0, 0), (68, .invokevirtual 64, 192, 0, 1), (71, .pop, 0, 0, 0), (72, .iinc 1 1, 0, 0, 0), (75, .goto (-73), 0, 0, 0), (78, .aload_n 0, 0, 0, 0), (79, .dup, 0, 0, 0), (80, .getfield 28, 1, 4, 0), (83, .iload_n 1, 0, 0, 0), (84, .iadd, 0, 0, 0), (85, .putfield 28, 1, 4, 0), (88, .iload_n 1, 0, 0, 0), (89, .ireturn, 0, 0, 0)]
def zc_12 : List zE := [(0, .aload_n 0, 0, 0, 0), (1, .getfield 12, 1, 0, 0), (4, .invokevirtual 41, 187, 0, 0), (7, .istore_n 1, 0, 0, 0), (8, .iconst 0, 0, 0, 0), (9, .istore_n 2, 0, 0, 0), (10, .iload_n 2, 0, 0, 0), (11, .iload_n 1, 0, 0, 0), (12, .if_icmp .ge 28, 0, 0, 0), (15, .aload_n 0, 0, 0, 0), (16, .getfield 18, 1, 1, 0), (19, .aload_n 0, 0, 0, 0), (20, .getfield 12, 1, 0, 0), (23, .iload_n 2, 0, 0, 0), (24, .invokevirtual 44, 190, 0, 1), (27, .checkcast 48, 3, 0, 0), (30, .invokevirtual 64, 192, 0, 1), (33, .pop, 0, 0, 0), (34, .iinc 2 1, 0, 0, 0), (37, .goto (-27), 0, 0, 0), (40, .aload_n 0, 0, 0, 0), (41, .getfield 12, 1, 0, 0), (44, .invokevirtual 90, 196, 0, 0), (47, .aload_n 0, 0, 0, 0), (48, .iconst 0, 0, 0, 0), (49, .putfield 25, 1, 3, 0), (52, .iload_n 1, 0, 0, 0), (53, .ireturn, 0, 0, 0)]
def zc_13 : List zE := [(0, .aload_n 0, 0, 0, 0), (1, .invokespecial 3, 0, 5, 0), (4, .aload_n 0, 0, 0, 0), (5, .bipush 64, 0, 0, 0), (7, .newarray .int, 1, 0, 0), (9, .putfield 9, 2, 0, 0), (12, .aload_n 0, 0, 0, 0), (13, .iconst (-1), 0, 0, 0), (14, .putfield 15, 2, 1, 0), (17, .return_, 0, 0, 0)]
def zc_14 : List zE := [(0, .aload_n 0, 0, 0, 0), (1, .getfield 15, 2, 1, 0), (4, .iconst (-1), 0, 0, 0), (5, .if_icmp .ne 7, 0, 0, 0), (8, .iconst 1, 0, 0, 0), (9, .goto 4, 0, 0, 0), (12, .iconst 0, 0, 0, 0), (13, .ireturn, 0, 0, 0)]
def zc_15 : List zE := [(0, .aload_n 0, 0, 0, 0), (1, .getfield 15, 2, 1, 0), (4, .ifCond .lt 12, 0, 0, 0), (7, .aload_n 0, 0, 0, 0), (8, .getfield 15, 2, 1, 0), (11, .bipush 64, 0, 0, 0), (13, .if_icmp .lt 5, 0, 0, 0), (16, .iconst 0, 0, 0, 0), (17, .ireturn, 0, 0, 0), (18, .aload_n 0, 0, 0, 0), (19, .getfield 9, 2, 0, 0), (22, .aload_n 0, 0, 0, 0), (23, .getfield 15, 2, 1, 0), (26, .iload_n 1, 0, 0, 0), (27, .iastore, 0, 0, 0), (28, .aload_n 0, 0, 0, 0), (29, .dup, 0, 0, 0), (30, .getfield 15, 2, 1, 0), (33, .iconst 1, 0, 0, 0), (34, .iadd, 0, 0, 0), (35, .putfield 15, 2, 1, 0), (38, .iconst 1, 0, 0, 0), (39, .ireturn, 0, 0, 0)]
def zc_16 : List zE := [(0, .aload_n 1, 0, 0, 0), (1, .getfield 15, 2, 1, 0), (4, .istore_n 2, 0, 0, 0), (5, .iconst 0, 0, 0, 0), (6, .istore_n 3, 0, 0, 0), (7, .iload_n 3, 0, 0, 0), (8, .iload_n 2, 0, 0, 0), (9, .if_icmp .ge 24, 0, 0, 0), (12, .aload_n 0, 0, 0, 0), (13, .aload_n 1, 0, 0, 0), (14, .getfield 9, 2, 0, 0), (17, .iload_n 3, 0, 0, 0), (18, .iaload, 0, 0, 0), (19, .invokevirtual 19, 15, 0, 1), (22, .ifCond .ne 5, 0, 0, 0), (25, .iconst 0, 0, 0, 0), (26, .ireturn, 0, 0, 0), (27, .iinc 3 1, 0, 0, 0), (30, .goto (-23), 0, 0, 0), (33, .iconst 1, 0, 0, 0), (34, .ireturn, 0, 0, 0)]
def zc_17 : List zE := [(0, .aload_n 0, 0, 0, 0), (1, .aload_n 1, 0, 0, 0), (2, .getfield 15, 2, 1, 0), (5, .putfield 15, 2, 1, 0), (8, .iconst 0, 0, 0, 0), (9, .istore_n 2, 0, 0, 0), (10, .iload_n 2, 0, 0, 0), (11, .aload_n 0, 0, 0, 0), (12, .getfield 15, 2, 1, 0), (15, .if_icmp .ge 21, 0, 0, 0), (18, .aload_n 0, 0, 0, 0), (19, .getfield 9, 2, 0, 0), (22, .iload_n 2, 0, 0, 0), (23, .aload_n 1, 0, 0, 0), (24, .getfield 9, 2, 0, 0), (27, .iload_n 2, 0, 0, 0), (28, .iaload, 0, 0, 0), (29, .iastore, 0, 0, 0), (30, .iinc 2 1, 0, 0, 0), (33, .goto (-23), 0, 0, 0), (36, .return_, 0, 0, 0)]
def zc_18 : List zE := [(0, .aload_n 0, 0, 0, 0), (1, .getfield 15, 2, 1, 0), (4, .aload_n 1, 0, 0, 0), (5, .getfield 15, 2, 1, 0), (8, .if_icmp .eq 5, 0, 0, 0), (11, .iconst 0, 0, 0, 0), (12, .ireturn, 0, 0, 0), (13, .iconst 0, 0, 0, 0), (14, .istore_n 2, 0, 0, 0), (15, .iload_n 2, 0, 0, 0), (16, .aload_n 0, 0, 0, 0), (17, .getfield 15, 2, 1, 0), (20, .if_icmp .ge 26, 0, 0, 0), (23, .aload_n 0, 0, 0, 0), (24, .getfield 9, 2, 0, 0), (27, .iload_n 2, 0, 0, 0), (28, .iaload, 0, 0, 0), (29, .aload_n 1, 0, 0, 0), (30, .getfield 9, 2, 0, 0), (33, .iload_n 2, 0, 0, 0), (34, .iaload, 0, 0, 0), (35, .if_icmp .eq 5, 0, 0, 0), (38, .iconst 0, 0, 0, 0), (39, .ireturn, 0, 0, 0), (40, .iinc 2 1, 0, 0, 0), (43, .goto (-28), 0, 0, 0), (46, .iconst 1, 0, 0, 0), (47, .ireturn, 0, 0, 0)]
def zc_19 : List zE := [(0, .iconst 0, 0, 0, 0), (1, .istore_n 1, 0, 0, 0), (2, .iload_n 1, 0, 0, 0), (3, .aload_n 0, 0, 0, 0), (4, .getfield 15, 2, 1, 0), (7, .iconst 2, 0, 0, 0), (8, .idiv, 0, 0, 0), (9, .if_icmp .ge 49, 0, 0, 0), (12, .aload_n 0, 0, 0, 0), (13, .getfield 9, 2, 0, 0), (16, .iload_n 1, 0, 0, 0), (17, .iaload, 0, 0, 0), (18, .istore_n 2, 0, 0, 0), (19, .aload_n 0, 0, 0, 0), (20, .getfield 9, 2, 0, 0), (23, .iload_n 1, 0, 0, 0), (24, .aload_n 0, 0, 0, 0), (25, .getfield 9, 2, 0, 0), (28, .aload_n 0, 0, 0, 0), (29, .getfield 15, 2, 1, 0), (32, .iconst 1, 0, 0, 0), (33, .isub, 0, 0, 0), (34, .iload_n 1, 0, 0, 0), (35, .isub, 0, 0, 0), (36, .iaload, 0, 0, 0), (37, .iastore, 0, 0, 0), (38, .aload_n 0, 0, 0, 0), (39, .getfield 9, 2, 0, 0), (42, .aload_n 0, 0, 0, 0), (43, .getfield 15, 2, 1, 0), (46, .iconst 1, 0, 0, 0), (47, .isub, 0, 0, 0), (48, .iload_n 1, 0, 0, 0), (49, .isub, 0, 0, 0), (50, .iload_n 2, 0, 0, 0), (51, .iastore, 0, 0, 0), (52, .iinc 1 1, 0, 0, 0), (55, .goto (-53), 0, 0, 0), (58, .return_, 0, 0, 0)]
def zc_20 : List zE := [(0, .iconst 1, 0, 0, 0), (1, .istore_n 1, 0, 0, 0), (2, .iload_n 1, 0, 0, 0), (3, .aload_n 0, 0, 0, 0), (4, .getfield 15, 2, 1, 0), (7, .if_icmp .ge 61, 0, 0, 0), (10, .aload_n 0, 0, 0, 0), (11, .getfield 9, 2, 0, 0), (14, .iload_n 1, 0, 0, 0), (15, .iaload, 0, 0, 0), (16, .istore_n 2, 0, 0, 0), (17, .iload_n 1, 0, 0, 0), (18, .istore_n 3, 0, 0, 0), (19, .iload_n 3, 0, 0, 0), (20, .ifCond .le 35, 0, 0, 0), (23, .aload_n 0, 0, 0, 0), (24, .getfield 9, 2, 0, 0), (27, .iload_n 3, 0, 0, 0), (28, .iconst 1, 0, 0, 0), (29, .isub, 0, 0, 0), (30, .iaload, 0, 0, 0), (31, .iload_n 2, 0, 0, 0), (32, .if_icmp .le 23, 0, 0, 0), (35, .aload_n 0, 0, 0, 0), (36, .getfield 9, 2, 0, 0), (39, .iload_n 3, 0, 0, 0), (40, .aload_n 0, 0, 0, 0), (41, .getfield 9, 2, 0, 0), (44, .iload_n 3, 0, 0, 0), (45, .iconst 1, 0, 0, 0), (46, .isub, 0, 0, 0), (47, .iaload, 0, 0, 0), (48, .iastore, 0, 0, 0), (49, .iinc 3 (-1), 0, 0, 0), (52, .goto (-33), 0, 0, 0), (55, .aload_n 0, 0, 0, 0), (56, .getfield 9, 2, 0, 0), (59, .iload_n 3, 0, 0, 0), (60, .iload_n 2, 0, 0, 0), (61, .iastore, 0, 0, 0), (62, .iinc 1 1, 0, 0, 0), (65, .goto (-63), 0, 0, 0), (68, .return_, 0, 0, 0)]
def zc_21 : List zE := [(0, .iconst 0, 0, 0, 0), (1, .istore_n 1, 0, 0, 0), (2, .iconst 0, 0, 0, 0), (3, .istore_n 2, 0, 0, 0), (4, .iload_n 2, 0, 0, 0), (5, .aload_n 0, 0, 0, 0), (6, .getfield 15, 2, 1, 0), (9, .if_icmp .ge 18, 0, 0, 0), (12, .iload_n 1, 0, 0, 0), (13, .aload_n 0, 0, 0, 0), (14, .getfield 9, 2, 0, 0), (17, .iload_n 2, 0, 0, 0), (18, .iaload, 0, 0, 0), (19, .iadd, 0, 0, 0), (20, .istore_n 1, 0, 0, 0), (21, .iinc 2 1, 0, 0, 0), (24, .goto (-20), 0, 0, 0), (27, .iload_n 1, 0, 0, 0), (28, .ireturn, 0, 0, 0)]
def zc_22 : List zE := [(0, .iload_n 1, 0, 0, 0), (1, .istore_n 2, 0, 0, 0), (2, .aload_n 0, 0, 0, 0), (3, .iconst 0, 0, 0, 0), (4, .putfield 15, 2, 1, 0), (7, .iconst 0, 0, 0, 0), (8, .istore_n 3, 0, 0, 0), (9, .iload_n 3, 0, 0, 0), (10, .bipush 10, 0, 0, 0), (12, .if_icmp .ge 34, 0, 0, 0), (15, .iload_n 3, 0, 0, 0), (16, .ifCond .eq 7, 0, 0, 0), (19, .iload_n 2, 0, 0, 0), (20, .ifCond .le 26, 0, 0, 0), (23, .aload_n 0, 0, 0, 0), (24, .bipush 48, 0, 0, 0), (26, .iload_n 2, 0, 0, 0), (27, .bipush 10, 0, 0, 0), (29, .irem, 0, 0, 0), (30, .iadd, 0, 0, 0), (31, .invokevirtual 19, 15, 0, 1), (34, .pop, 0, 0, 0), (35, .iload_n 2, 0, 0, 0), (36, .bipush 10, 0, 0, 0), (38, .idiv, 0, 0, 0), (39, .istore_n 2, 0, 0, 0), (40, .iinc 3 1, 0, 0, 0), (43, .goto (-34), 0, 0, 0), (46, .aload_n 0, 0, 0, 0), (47, .invokevirtual 23, 19, 0, 0), (50, .return_, 0, 0, 0)]
def zc_23 : List zE := [(0, .aload_n 0, 0, 0, 0), (1, .getfield 15, 2, 1, 0), (4, .iload_n 1, 0, 0, 0), (5, .if_icmp .le 8, 0, 0, 0), (8, .aload_n 0, 0, 0, 0), (9, .iload_n 1, 0, 0, 0), (10, .putfield 15, 2, 1, 0), (13, .return_, 0, 0, 0)]
def zc_24 : List zE := [(0, .iconst 0, 0, 0, 0), (1, .istore_n 1, 0, 0, 0), (2, .iconst 0, 0, 0, 0), (3, .istore_n 2, 0, 0, 0), (4, .iload_n 2, 0, 0, 0), (5, .aload_n 0, 0, 0, 0), (6, .getfield 15, 2, 1, 0), (9, .if_icmp .ge 38, 0, 0, 0), (12, .aload_n 0, 0, 0, 0), (13, .iload_n 1, 0, 0, 0), (14, .aload_n 0, 0, 0, 0), (15, .getfield 9, 2, 0, 0), (18, .iload_n 2, 0, 0, 0), (19, .iaload, 0, 0, 0), (20, .invokevirtual 26, 25, 0, 2), (23, .ifCond .ne 18, 0, 0, 0), (26, .aload_n 0, 0, 0, 0), (27, .getfield 9, 2, 0, 0), (30, .iload_n 1, 0, 0, 0), (31, .aload_n 0, 0, 0, 0), (32, .getfield 9, 2, 0, 0), (35, .iload_n 2, 0, 0, 0), (36, .iaload, 0, 0, 0), (37, .iastore, 0, 0, 0), (38, .iinc 1 1, 0, 0, 0), (41, .iinc 2 1, 0, 0, 0), (44, .goto (-40), 0, 0, 0), (47, .aload_n 0, 0, 0, 0), (48, .iload_n 1, 0, 0, 0), (49, .putfield 15, 2, 1, 0), (52, .return_, 0, 0, 0)]
def zc_25 : List zE := [(0, .iconst 0, 0, 0, 0), (1, .istore_n 3, 0, 0, 0), (2, .iload_n 3, 0, 0, 0), (3, .iload_n 1, 0, 0, 0), (4, .if_icmp .ge 21, 0, 0, 0), (7, .aload_n 0, 0, 0, 0), (8, .getfield 9, 2, 0, 0), (11, .iload_n 3, 0, 0, 0), (12, .iaload, 0, 0, 0), (13, .iload_n 2, 0, 0, 0), (14, .if_icmp .ne 5, 0, 0, 0), (17, .iconst 1, 0, 0, 0), (18, .ireturn, 0, 0, 0), (19, .iinc 3 1, 0, 0, 0), (22, .goto (-20), 0, 0, 0), (25, .iconst 0, 0, 0, 0), (26, .ireturn, 0, 0, 0)]
def zc_26 : List zE := [(0, .iconst 0, 0, 0, 0), (1, .istore_n 2, 0, 0, 0), (2, .iload_n 2, 0, 0, 0), (3, .aload_n 0, 0, 0, 0), (4, .getfield 15, 2, 1, 0), (7, .if_icmp .ge 19, 0, 0, 0), (10, .aload_n 0, 0, 0, 0), (11, .getfield 9, 2, 0, 0), (14, .iload_n 2, 0, 0, 0), (15, .dup2, 0, 0, 0), (16, .iaload, 0, 0, 0), (17, .iload_n 1, 0, 0, 0), (18, .ixor, 0, 0, 0), (19, .iastore, 0, 0, 0), (20, .iinc 2 1, 0, 0, 0), (23, .goto (-21), 0, 0, 0), (26, .return_, 0, 0, 0)]
def zc_27 : List zE := [(0, .aload_n 0, 0, 0, 0), (1, .invokespecial 1, 0, 5, 0), (4, .aload_n 0, 0, 0, 0), (5, .new 7, 5, 0, 0), (8, .dup, 0, 0, 0), (9, .invokespecial 9, 40, 3, 0), (12, .putfield 10, 3, 0, 0), (15, .aload_n 0, 0, 0, 0), (16, .new 16, 7, 0, 0), (19, .dup, 0, 0, 0), (20, .invokespecial 18, 55, 2, 0), (23, .putfield 19, 3, 1, 0), (26, .aload_n 0, 0, 0, 0), (27, .lconst 0, 0, 0, 0), (28, .putfield 23, 3, 2, 0), (31, .aload_n 0, 0, 0, 0), (32, .iconst 0, 0, 0, 0), (33, .putfield 27, 3, 3, 0), (36, .return_, 0, 0, 0)]
def zc_28 : List zE := [(0, .aload_n 0, 0, 0, 0), (1, .getfield 10, 3, 0, 0), (4, .aload_n 1, 0, 0, 0), (5, .invokevirtual 31, 46, 0, 1), (8, .aload_n 0, 0, 0, 0), (9, .aload_n 1, 0, 0, 0), (10, .invokevirtual 35, 47, 0, 0), (13, .putfield 23, 3, 2, 0), (16, .aload_n 0, 0, 0, 0), (17, .iconst 0, 0, 0, 0), (18, .putfield 27, 3, 3, 0), (21, .return_, 0, 0, 0)]
def zc_29 : List zE := [(0, .aload_n 0, 0, 0, 0), (1, .invokespecial 3, 0, 5, 0), (4, .aload_n 0, 0, 0, 0), (5, .new 9, 13, 0, 0), (8, .dup, 0, 0, 0), (9, .invokespecial 11, 184, 2, 0), (12, .putfield 12, 4, 0, 0), (15, .return_, 0, 0, 0)]
def zc_30 : List zE := [(0, .aload_n 0, 0, 0, 0), (1, .getfield 12, 4, 0, 0), (4, .invokevirtual 18, 187, 0, 0), (7, .ireturn, 0, 0, 0)]
def zc_31 : List zE := [(0, .iload_n 1, 0, 0, 0), (1, .ifCond .lt 18, 0, 0, 0), (4, .iload_n 1, 0, 0, 0), (5, .aload_n 0, 0, 0, 0), (6, .getfield 12, 4, 0, 0), (9, .invokevirtual 18, 187, 0, 0), (12, .if_icmp .ge 7, 0, 0, 0), (15, .iconst 1, 0, 0, 0), (16, .goto 4, 0, 0, 0), (19, .iconst 0, 0, 0, 0), (20, .ireturn, 0, 0, 0)]
def zc_32 : List zE := [(0, .aload_n 0, 0, 0, 0), (1, .getfield 12, 4, 0, 0), (4, .iload_n 1, 0, 0, 0), (5, .invokevirtual 22, 190, 0, 1), (8, .checkcast 26, 0, 0, 0), (11, .areturn, 0, 0, 0)]
def zc_33 : List zE := [(0, .aload_n 0, 0, 0, 0), (1, .getfield 12, 4, 0, 0), (4, .new 26, 0, 0, 0), (7, .dup, 0, 0, 0), (8, .invokespecial 28, 0, 2, 0), (11, .invokevirtual 29, 192, 0, 1), (14, .pop, 0, 0, 0), (15, .aload_n 0, 0, 0, 0), (16, .getfield 12, 4, 0, 0), (19, .invokevirtual 18, 187, 0, 0), (22, .iconst 1, 0, 0, 0), (23, .isub, 0, 0, 0), (24, .ireturn, 0, 0, 0)]
def zc_34 : List zE := [(0, .lconst 1, 0, 0, 0), (1, .aload_n 0, 0, 0, 0), (2, .getfield 12, 4, 0, 0), (5, .invokevirtual 18, 187, 0, 0), (8, .lshl, 0, 0, 0), (9, .lconst 1, 0, 0, 0), (10, .lsub, 0, 0, 0), (11, .lreturn, 0, 0, 0)]
def zc_35 : List zE := [(0, .iconst 0, 0, 0, 0), (1, .istore_n 1, 0, 0, 0), (2, .iload_n 1, 0, 0, 0), (3, .aload_n 0, 0, 0, 0), (4, .getfield 12, 4, 0, 0), (7, .invokevirtual 18, 187, 0, 0), (10, .if_icmp .ge 68, 0, 0, 0), (13, .aload_n 0, 0, 0, 0), (14, .getfield 12, 4, 0, 0), (17, .iload_n 1, 0, 0, 0), (18, .invokevirtual 22, 190, 0, 1), (21, .checkcast 26, 0, 0, 0), (24, .astore_n 2, 0, 0, 0), (25, .aload_n 2, 0, 0, 0), (26, .lconst 0, 0, 0, 0), (27, .putfield 33, 0, 6, 0), (30, .iconst 0, 0, 0, 0), (31, .istore_n 3, 0, 0, 0), (32, .iload_n 3, 0, 0, 0), (33, .aload_n 2, 0, 0, 0), (34, .getfield 37, 0, 0, 0), (37, .invokevirtual 18, 187, 0, 0), (40, .if_icmp .ge 32, 0, 0, 0), (43, .aload_n 2, 0, 0, 0), (44, .dup, 0, 0, 0), (45, .getfield 33, 0, 6, 0), (48, .aload_n 2, 0, 0, 0), (49, .getfield 37, 0, 0, 0), (52, .iload_n 3, 0, 0, 0), (53, .invokevirtual 22, 190, 0, 1), (56, .checkcast 40, 8, 0, 0), (59, .invokevirtual 42, 62, 0, 0), (62, .lor, 0, 0, 0), (63, .putfield 33, 0, 6, 0), (66, .iinc 3 1, 0, 0, 0), (69, .goto (-37), 0, 0, 0), (72, .iinc 1 1, 0, 0, 0), (75, .goto (-73), 0, 0, 0), (78, .return_, 0, 0, 0)]
def zc_36 : List zE := [(0, .lload_n 1, 0, 0, 0), (1, .lstore_n 3, 0, 0, 0), (2, .lconst 0, 0, 0, 0), (3, .lstore 5, 0, 0, 0), (5, .iconst 0, 0, 0, 0), (6, .istore 7, 0, 0, 0), (8, .iload 7, 0, 0, 0), (10, .aload_n 0, 0, 0, 0), (11, .getfield 12, 4, 0, 0), (14, .invokevirtual 18, 187, 0, 0), (17, .if_icmp .gt 70, 0, 0, 0), (20, .lload_n 3, 0, 0, 0), (21, .lload 5, 0, 0, 0), (23, .lcmp, 0, 0, 0), (24, .ifCond .eq 63, 0, 0, 0), (27, .lload_n 3, 0, 0, 0), (28, .lstore 5, 0, 0, 0), (30, .iconst 0, 0, 0, 0), (31, .istore 8, 0, 0, 0), (33, .iload 8, 0, 0, 0), (35, .aload_n 0, 0, 0, 0), (36, .getfield 12, 4, 0, 0), (39, .invokevirtual 18, 187, 0, 0), (42, .if_icmp .ge 39, 0, 0, 0), (45, .lload_n 3, 0, 0, 0), (46, .iload 8, 0, 0, 0), (48, .invokestatic 46, 108, 4, 1), (51, .land, 0, 0, 0), (52, .lconst 0, 0, 0, 0), (53, .lcmp, 0, 0, 0), (54, .ifCond .eq 21, 0, 0, 0), (57, .lload_n 3, 0, 0, 0), (58, .aload_n 0, 0, 0, 0), (59, .getfield 12, 4, 0, 0), (62, .iload 8, 0, 0, 0), (64, .invokevirtual 22, 190, 0, 1), (67, .checkcast 26, 0, 0, 0), (70, .getfield 33, 0, 6, 0), (73, .lor, 0, 0, 0), (74, .lstore_n 3, 0, 0, 0), (75, .iinc 8 1, 0, 0, 0), (78, .goto (-45), 0, 0, 0), (81, .iinc 7 1, 0, 0, 0), (84, .goto (-76), 0, 0, 0), (87, .lload_n 3, 0, 0, 0), (88, .lreturn, 0, 0, 0)]
def zc_37 : List zE := [(0, .aload_n 0, 0, 0, 0), (1, .aload_n 2, 0, 0, 0), (2, .invokevirtual 42, 62, 0, 0), (5, .invokevirtual 50, 36, 0, 1), (8, .iload_n 1, 0, 0, 0), (9, .invokestatic 46, 108, 4, 1), (12, .land, 0, 0, 0), (13, .lconst 0, 0, 0, 0), (14, .lcmp, 0, 0, 0), (15, .ifCond .eq 7, 0, 0, 0), (18, .iconst 1, 0, 0, 0), (19, .goto 4, 0, 0, 0), (22, .iconst 0, 0, 0, 0), (23, .ireturn, 0, 0, 0)]
def zc_38 : List zE := [(0, .aload_n 0, 0, 0, 0), (1, .iload_n 1, 0, 0, 0), (2, .invokestatic 46, 108, 4, 1), (5, .invokevirtual 50, 36, 0, 1), (8, .lstore_n 3, 0, 0, 0), (9, .iconst 0, 0, 0, 0), (10, .istore 5, 0, 0, 0), (12, .iload 5, 0, 0, 0), (14, .aload_n 0, 0, 0, 0), (15, .getfield 12, 4, 0, 0), (18, .invokevirtual 18, 187, 0, 0), (21, .if_icmp .ge 70, 0, 0, 0), (24, .lload_n 3, 0, 0, 0), (25, .iload 5, 0, 0, 0), (27, .invokestatic 46, 108, 4, 1), (30, .land, 0, 0, 0), (31, .lconst 0, 0, 0, 0), (32, .lcmp, 0, 0, 0), (33, .ifCond .ne 6, 0, 0, 0), (36, .goto 49, 0, 0, 0), (39, .aload_n 0, 0, 0, 0), (40, .getfield 12, 4, 0, 0), (43, .iload 5, 0, 0, 0), (45, .invokevirtual 22, 190, 0, 1), (48, .checkcast 26, 0, 0, 0), (51, .aload_n 2, 0, 0, 0), (52, .getfield 54, 8, 0, 0), (55, .invokevirtual 58, 1, 0, 1), (58, .ifCond .ne 25, 0, 0, 0), (61, .aload_n 0, 0, 0, 0), (62, .getfield 12, 4, 0, 0), (65, .iload 5, 0, 0, 0), (67, .invokevirtual 22, 190, 0, 1), (70, .checkcast 26, 0, 0, 0), (73, .aload_n 2, 0, 0, 0), (74, .getfield 62, 8, 1, 0), (77, .invokevirtual 58, 1, 0, 1), (80, .ifCond .eq 5, 0, 0, 0), (83, .iconst 1, 0, 0, 0), (84, .ireturn, 0, 0, 0), (85, .iinc 5 1, 0, 0, 0), (88, .goto (-76), 0, 0, 0), (91, .iconst 0, 0, 0, 0), (92, .ireturn, 0, 0, 0)]
def zc_39 : List zE := [(0, .iconst 0, 0, 0, 0), (1, .istore_n 3, 0, 0, 0), (2, .iload_n 3, 0, 0, 0), (3, .aload_n 0, 0, 0, 0), (4, .getfield 12, 4, 0, 0), (7, .invokevirtual 18, 187, 0, 0), (10, .if_icmp .ge 43, 0, 0, 0), (13, .lload_n 1, 0, 0, 0), (14, .iload_n 3, 0, 0, 0), (15, .invokestatic 46, 108, 4, 1), (18, .land, 0, 0, 0), (19, .lconst 0, 0, 0, 0), (20, .lcmp, 0, 0, 0), (21, .ifCond .eq 26, 0, 0, 0), (24, .aload_n 0, 0, 0, 0), (25, .getfield 12, 4, 0, 0), (28, .iload_n 3, 0, 0, 0), (29, .invokevirtual 22, 190, 0, 1), (32, .checkcast 26, 0, 0, 0), (35, .getfield 33, 0, 6, 0), (38, .lload_n 1, 0, 0, 0), (39, .land, 0, 0, 0), (40, .lconst 0, 0, 0, 0), (41, .lcmp, 0, 0, 0), (42, .ifCond .ne 5, 0, 0, 0), (45, .iload_n 3, 0, 0, 0), (46, .ireturn, 0, 0, 0), (47, .iinc 3 1, 0, 0, 0), (50, .goto (-48), 0, 0, 0), (53, .iconst (-1), 0, 0, 0), (54, .ireturn, 0, 0, 0)]
def zc_40 : List zE := [(0, .aload_n 0, 0, 0, 0), (1, .invokespecial 3, 0, 5, 0), (4, .aload_n 0, 0, 0, 0), (5, .sipush 425, 0, 0, 0), (8, .newarray .int, 2, 0, 0), (10, .putfield 9, 5, 0, 0), (13, .aload_n 0, 0, 0, 0), (14, .bipush 6, 0, 0, 0), (16, .newarray .int, 3, 0, 0), (18, .putfield 15, 5, 1, 0), (21, .aload_n 0, 0, 0, 0), (22, .iconst 0, 0, 0, 0), (23, .putfield 18, 5, 2, 0), (26, .aload_n 0, 0, 0, 0), (27, .iconst 0, 0, 0, 0), (28, .putfield 22, 5, 3, 0), (31, .aload_n 0, 0, 0, 0), (32, .iconst 0, 0, 0, 0), (33, .putfield 25, 5, 4, 0), (36, .return_, 0, 0, 0)]
def zc_41 : List zE := [(0, .aload_n 0, 0, 0, 0), (1, .iconst 0, 0, 0, 0), (2, .putfield 18, 5, 2, 0), (5, .aload_n 0, 0, 0, 0), (6, .iconst 0, 0, 0, 0), (7, .putfield 22, 5, 3, 0), (10, .aload_n 0, 0, 0, 0), (11, .aload_n 1, 0, 0, 0), (12, .getfield 28, 0, 1, 0), (15, .invokevirtual 34, 187, 0, 0), (18, .invokevirtual 39, 45, 0, 1), (21, .aload_n 0, 0, 0, 0), (22, .aload_n 1, 0, 0, 0), (23, .getfield 43, 0, 5, 0), (26, .invokevirtual 39, 45, 0, 1), (29, .iconst 0, 0, 0, 0), (30, .istore_n 3, 0, 0, 0), (31, .iload_n 3, 0, 0, 0), (32, .aload_n 1, 0, 0, 0), (33, .getfield 43, 0, 5, 0), (36, .if_icmp .ge 29, 0, 0, 0), (39, .aload_n 0, 0, 0, 0), (40, .aload_n 1, 0, 0, 0), (41, .getfield 46, 0, 2, 0), (44, .iload_n 3, 0, 0, 0), (45, .iaload, 0, 0, 0), (46, .invokevirtual 39, 45, 0, 1), (49, .aload_n 0, 0, 0, 0), (50, .aload_n 1, 0, 0, 0), (51, .getfield 47, 0, 3, 0), (54, .iload_n 3, 0, 0, 0), (55, .iaload, 0, 0, 0), (56, .invokevirtual 39, 45, 0, 1), (59, .iinc 3 1, 0, 0, 0), (62, .goto (-31), 0, 0, 0), (65, .aload_n 0, 0, 0, 0), (66, .aload_n 1, 0, 0, 0), (67, .getfield 50, 0, 0, 0), (70, .invokevirtual 34, 187, 0, 0), (73, .invokevirtual 39, 45, 0, 1), (76, .aload_n 0, 0, 0, 0), (77, .aload_n 0, 0, 0, 0), (78, .getfield 18, 5, 2, 0), (81, .putfield 25, 5, 4, 0), (84, .iconst 0, 0, 0, 0), (85, .istore_n 3, 0, 0, 0), (86, .iload_n 3, 0, 0, 0), (87, .aload_n 1, 0, 0, 0), (88, .getfield 50, 0, 0, 0), (91, .invokevirtual 34, 187, 0, 0), (94, .if_icmp .ge 51, 0, 0, 0), (97, .iload_n 3, 0, 0, 0), (98, .bipush 6, 0, 0, 0), (100, .if_icmp .ge 45, 0, 0, 0), (103, .aload_n 0, 0, 0, 0), (104, .aload_n 1, 0, 0, 0), (105, .getfield 50, 0, 0, 0), (108, .iload_n 3, 0, 0, 0), (109, .invokevirtual 53, 190, 0, 1), (112, .checkcast 57, 8, 0, 0), (115, .iload_n 2, 0, 0, 0), (116, .invokevirtual 59, 42, 0, 2), (119, .aload_n 0, 0, 0, 0), (120, .getfield 15, 5, 1, 0), (123, .iload_n 3, 0, 0, 0), (124, .aload_n 0, 0, 0, 0), (125, .getfield 18, 5, 2, 0), (128, .iastore, 0, 0, 0), (129, .aload_n 0, 0, 0, 0), (130, .dup, 0, 0, 0), (131, .getfield 22, 5, 3, 0), (134, .iconst 1, 0, 0, 0), (135, .iadd, 0, 0, 0), (136, .putfield 22, 5, 3, 0), (139, .iinc 3 1, 0, 0, 0), (142, .goto (-56), 0, 0, 0), (145, .return_, 0, 0, 0)]
def zc_42 : List zE := [(0, .aload_n 1, 0, 0, 0), (1, .getfield 63, 8, 3, 0), (4, .ifCond .eq 12, 0, 0, 0), (7, .aload_n 0, 0, 0, 0), (8, .aload_n 1, 0, 0, 0), (9, .iload_n 2, 0, 0, 0), (10, .invokevirtual 67, 43, 0, 2), (13, .goto 13, 0, 0, 0), (16, .aload_n 0, 0, 0, 0), (17, .aload_n 1, 0, 0, 0), (18, .getfield 70, 8, 4, 0), (21, .iload_n 2, 0, 0, 0), (22, .aaload, 0, 0, 0), (23, .invokevirtual 74, 44, 0, 1), (26, .return_, 0, 0, 0)]
def zc_43 : List zE := [(0, .aload_n 0, 0, 0, 0), (1, .bipush (-2), 0, 0, 0), (3, .invokevirtual 39, 45, 0, 1), (6, .aload_n 0, 0, 0, 0), (7, .aload_n 1, 0, 0, 0), (8, .iload_n 2, 0, 0, 0), (9, .invokevirtual 78, 63, 0, 1), (12, .invokevirtual 39, 45, 0, 1), (15, .iconst 0, 0, 0, 0), (16, .istore_n 3, 0, 0, 0), (17, .iload_n 3, 0, 0, 0), (18, .aload_n 1, 0, 0, 0), (19, .getfield 82, 8, 5, 0), (22, .invokevirtual 34, 187, 0, 0), (25, .if_icmp .ge 44, 0, 0, 0), (28, .aload_n 1, 0, 0, 0), (29, .getfield 82, 8, 5, 0), (32, .iload_n 3, 0, 0, 0), (33, .invokevirtual 53, 190, 0, 1), (36, .checkcast 57, 8, 0, 0), (39, .astore 4, 0, 0, 0), (41, .aload 4, 0, 0, 0), (43, .getfield 70, 8, 4, 0), (46, .iload_n 2, 0, 0, 0), (47, .aaload, 0, 0, 0), (48, .invokevirtual 85, 14, 0, 0), (51, .ifCond .ne 12, 0, 0, 0), (54, .aload_n 0, 0, 0, 0), (55, .aload 4, 0, 0, 0), (57, .getfield 91, 8, 2, 0), (60, .invokevirtual 39, 45, 0, 1), (63, .iinc 3 1, 0, 0, 0), (66, .goto (-49), 0, 0, 0), (69, .return_, 0, 0, 0)]
def zc_44 : List zE := [(0, .aload_n 0, 0, 0, 0), (1, .aload_n 1, 0, 0, 0), (2, .getfield 94, 2, 1, 0), (5, .invokevirtual 39, 45, 0, 1), (8, .iconst 0, 0, 0, 0), (9, .istore_n 2, 0, 0, 0), (10, .iload_n 2, 0, 0, 0), (11, .aload_n 1, 0, 0, 0), (12, .getfield 94, 2, 1, 0), (15, .if_icmp .ge 19, 0, 0, 0), (18, .aload_n 0, 0, 0, 0), (19, .aload_n 1, 0, 0, 0), (20, .getfield 95, 2, 0, 0), (23, .iload_n 2, 0, 0, 0), (24, .iaload, 0, 0, 0), (25, .invokevirtual 39, 45, 0, 1), (28, .iinc 2 1, 0, 0, 0), (31, .goto (-21), 0, 0, 0), (34, .return_, 0, 0, 0)]
def zc_45 : List zE := [(0, .aload_n 0, 0, 0, 0), (1, .getfield 18, 5, 2, 0), (4, .sipush 425, 0, 0, 0), (7, .if_icmp .lt 4, 0, 0, 0), (10, .return_, 0, 0, 0), (11, .aload_n 0, 0, 0, 0), (12, .getfield 9, 5, 0, 0), (15, .aload_n 0, 0, 0, 0), (16, .getfield 18, 5, 2, 0), (19, .iload_n 1, 0, 0, 0), (20, .iastore, 0, 0, 0), (21, .aload_n 0, 0, 0, 0), (22, .dup, 0, 0, 0), (23, .getfield 18, 5, 2, 0), (26, .iconst 1, 0, 0, 0), (27, .iadd, 0, 0, 0), (28, .putfield 18, 5, 2, 0), (31, .return_, 0, 0, 0)]
def zc_46 : List zE := [(0, .aload_n 0, 0, 0, 0), (1, .aload_n 1, 0, 0, 0), (2, .getfield 18, 5, 2, 0), (5, .putfield 18, 5, 2, 0), (8, .aload_n 0, 0, 0, 0), (9, .aload_n 1, 0, 0, 0), (10, .getfield 22, 5, 3, 0), (13, .putfield 22, 5, 3, 0), (16, .aload_n 0, 0, 0, 0), (17, .aload_n 1, 0, 0, 0), (18, .getfield 25, 5, 4, 0), (21, .putfield 25, 5, 4, 0), (24, .iconst 0, 0, 0, 0), (25, .istore_n 2, 0, 0, 0), (26, .iload_n 2, 0, 0, 0), (27, .aload_n 0, 0, 0, 0), (28, .getfield 18, 5, 2, 0), (31, .if_icmp .ge 21, 0, 0, 0), (34, .aload_n 0, 0, 0, 0), (35, .getfield 9, 5, 0, 0), (38, .iload_n 2, 0, 0, 0), (39, .aload_n 1, 0, 0, 0), (40, .getfield 9, 5, 0, 0), (43, .iload_n 2, 0, 0, 0), (44, .iaload, 0, 0, 0), (45, .iastore, 0, 0, 0), (46, .iinc 2 1, 0, 0, 0), (49, .goto (-23), 0, 0, 0), (52, .iconst 0, 0, 0, 0), (53, .istore_n 2, 0, 0, 0), (54, .iload_n 2, 0, 0, 0), (55, .aload_n 0, 0, 0, 0), (56, .getfield 22, 5, 3, 0), (59, .if_icmp .ge 21, 0, 0, 0), (62, .aload_n 0, 0, 0, 0), (63, .getfield 15, 5, 1, 0), (66, .iload_n 2, 0, 0, 0), (67, .aload_n 1, 0, 0, 0), (68, .getfield 15, 5, 1, 0), (71, .iload_n 2, 0, 0, 0), (72, .iaload, 0, 0, 0), (73, .iastore, 0, 0, 0), (74, .iinc 2 1, 0, 0, 0), (77, .goto (-23), 0, 0, 0), (80, .return_, 0, 0, 0)]
def zc_47 : List zE := [(0, .ldc2_w 98, 0, 0, 1469598103934665603), (3, .lstore_n 1, 0, 0, 0), (4, .iconst 0, 0, 0, 0), (5, .istore_n 3, 0, 0, 0), (6, .iload_n 3, 0, 0, 0), (7, .aload_n 0, 0, 0, 0), (8, .getfield 18, 5, 2, 0), (11, .if_icmp .ge 23, 0, 0, 0), (14, .lload_n 1, 0, 0, 0), (15, .aload_n 0, 0, 0, 0), (16, .getfield 9, 5, 0, 0), (19, .iload_n 3, 0, 0, 0), (20, .iaload, 0, 0, 0), (21, .i2l, 0, 0, 0), (22, .lxor, 0, 0, 0), (23, .ldc2_w 100, 0, 0, 1099511628211), (26, .lmul, 0, 0, 0), (27, .lstore_n 1, 0, 0, 0), (28, .iinc 3 1, 0, 0, 0), (31, .goto (-25), 0, 0, 0), (34, .lload_n 1, 0, 0, 0), (35, .lreturn, 0, 0, 0)]
def zc_48 : List zE := [(0, .aload_n 0, 0, 0, 0), (1, .getfield 18, 5, 2, 0), (4, .aload_n 1, 0, 0, 0), (5, .getfield 18, 5, 2, 0), (8, .if_icmp .ne 19, 0, 0, 0), (11, .aload_n 0, 0, 0, 0), (12, .aload_n 1, 0, 0, 0), (13, .invokevirtual 102, 49, 0, 1), (16, .aload_n 0, 0, 0, 0), (17, .getfield 18, 5, 2, 0), (20, .if_icmp .ne 7, 0, 0, 0), (23, .iconst 1, 0, 0, 0), (24, .goto 4, 0, 0, 0), (27, .iconst 0, 0, 0, 0), (28, .ireturn, 0, 0, 0)]
def zc_49 : List zE := [(0, .iconst 0, 0, 0, 0), (1, .istore_n 2, 0, 0, 0), (2, .iload_n 2, 0, 0, 0), (3, .aload_n 0, 0, 0, 0), (4, .getfield 18, 5, 2, 0), (7, .if_icmp .ge 32, 0, 0, 0), (10, .iload_n 2, 0, 0, 0), (11, .aload_n 1, 0, 0, 0), (12, .getfield 18, 5, 2, 0), (15, .if_icmp .ge 24, 0, 0, 0), (18, .aload_n 0, 0, 0, 0), (19, .getfield 9, 5, 0, 0), (22, .iload_n 2, 0, 0, 0), (23, .iaload, 0, 0, 0), (24, .aload_n 1, 0, 0, 0), (25, .getfield 9, 5, 0, 0), (28, .iload_n 2, 0, 0, 0), (29, .iaload, 0, 0, 0), (30, .if_icmp .ne 9, 0, 0, 0), (33, .iinc 2 1, 0, 0, 0), (36, .goto (-34), 0, 0, 0), (39, .iload_n 2, 0, 0, 0), (40, .ireturn, 0, 0, 0)]
def zc_50 : List zE := [(0, .aload_n 1, 0, 0, 0), (1, .getfield 18, 5, 2, 0), (4, .ifCond .ne 5, 0, 0, 0), (7, .iconst (-1), 0, 0, 0), (8, .ireturn, 0, 0, 0), (9, .aload_n 0, 0, 0, 0), (10, .aload_n 1, 0, 0, 0), (11, .invokevirtual 106, 48, 0, 1), (14, .ifCond .eq 5, 0, 0, 0), (17, .iconst 0, 0, 0, 0), (18, .ireturn, 0, 0, 0), (19, .aload_n 0, 0, 0, 0), (20, .aload_n 1, 0, 0, 0), (21, .invokevirtual 102, 49, 0, 1), (24, .istore_n 2, 0, 0, 0), (25, .iload_n 2, 0, 0, 0), (26, .aload_n 0, 0, 0, 0), (27, .getfield 25, 5, 4, 0), (30, .if_icmp .ge 5, 0, 0, 0), (33, .iconst 1, 0, 0, 0), (34, .ireturn, 0, 0, 0), (35, .iconst 0, 0, 0, 0), (36, .istore_n 3, 0, 0, 0), (37, .iload_n 3, 0, 0, 0), (38, .aload_n 0, 0, 0, 0), (39, .getfield 22, 5, 3, 0), (42, .iconst 1, 0, 0, 0), (43, .isub, 0, 0, 0), (44, .if_icmp .ge 19, 0, 0, 0), (47, .iload_n 2, 0, 0, 0), (48, .aload_n 0, 0, 0, 0), (49, .getfield 15, 5, 1, 0), (52, .iload_n 3, 0, 0, 0), (53, .iaload, 0, 0, 0), (54, .if_icmp .lt 9, 0, 0, 0), (57, .iinc 3 1, 0, 0, 0), (60, .goto (-23), 0, 0, 0), (63, .bipush 10, 0, 0, 0), (65, .iload_n 3, 0, 0, 0), (66, .iadd, 0, 0, 0), (67, .ireturn, 0, 0, 0)]
def zc_51 : List zE := [(0, .aload_n 0, 0, 0, 0), (1, .invokespecial 3, 0, 5, 0), (4, .aload_n 0, 0, 0, 0), (5, .iconst 4, 0, 0, 0), (6, .bipush 40, 0, 0, 0), (8, .multianewarray 11 2, 9, 10, 0), (12, .putfield 13, 6, 0, 0), (15, .aload_n 0, 0, 0, 0), (16, .iconst 0, 0, 0, 0), (17, .putfield 16, 6, 1, 0), (20, .aload_n 0, 0, 0, 0), (21, .iconst 0, 0, 0, 0), (22, .putfield 20, 6, 2, 0), (25, .aload_n 0, 0, 0, 0), (26, .iconst 0, 0, 0, 0), (27, .putfield 23, 6, 3, 0), (30, .aload_n 0, 0, 0, 0), (31, .iconst 0, 0, 0, 0), (32, .putfield 26, 6, 4, 0), (35, .return_, 0, 0, 0)]
def zc_52 : List zE := [(0, .aload_n 0, 0, 0, 0), (1, .iconst 0, 0, 0, 0), (2, .putfield 16, 6, 1, 0), (5, .aload_n 0, 0, 0, 0), (6, .iconst 0, 0, 0, 0), (7, .putfield 20, 6, 2, 0), (10, .aload_n 0, 0, 0, 0), (11, .iconst 0, 0, 0, 0), (12, .putfield 23, 6, 3, 0), (15, .aload_n 0, 0, 0, 0), (16, .iconst 0, 0, 0, 0), (17, .putfield 26, 6, 4, 0), (20, .return_, 0, 0, 0)]
def zc_53 : List zE := [(0, .aload_n 0, 0, 0, 0), (1, .iconst 0, 0, 0, 0), (2, .putfield 16, 6, 1, 0), (5, .aload_n 0, 0, 0, 0), (6, .dup, 0, 0, 0), (7, .getfield 26, 6, 4, 0), (10, .iconst 1, 0, 0, 0), (11, .iadd, 0, 0, 0), (12, .putfield 26, 6, 4, 0), (15, .return_, 0, 0, 0)]
def zc_54 : List zE := [(0, .aload_n 0, 0, 0, 0), (1, .getfield 16, 6, 1, 0), (4, .bipush 40, 0, 0, 0), (6, .if_icmp .lt 4, 0, 0, 0), (9, .return_, 0, 0, 0), (10, .aload_n 0, 0, 0, 0), (11, .getfield 13, 6, 0, 0), (14, .iconst 0, 0, 0, 0), (15, .aaload, 0, 0, 0), (16, .aload_n 0, 0, 0, 0), (17, .getfield 16, 6, 1, 0), (20, .iload_n 1, 0, 0, 0), (21, .iastore, 0, 0, 0), (22, .aload_n 0, 0, 0, 0), (23, .getfield 13, 6, 0, 0), (26, .iconst 1, 0, 0, 0), (27, .aaload, 0, 0, 0), (28, .aload_n 0, 0, 0, 0), (29, .getfield 16, 6, 1, 0), (32, .iload_n 2, 0, 0, 0), (33, .ifCond .eq 7, 0, 0, 0), (36, .iconst 1, 0, 0, 0), (37, .goto 4, 0, 0, 0), (40, .iconst 0, 0, 0, 0), (41, .iastore, 0, 0, 0), (42, .aload_n 0, 0, 0, 0), (43, .getfield 13, 6, 0, 0), (46, .iconst 2, 0, 0, 0), (47, .aaload, 0, 0, 0), (48, .aload_n 0, 0, 0, 0), (49, .getfield 16, 6, 1, 0), (52, .iload_n 3, 0, 0, 0), (53, .iastore, 0, 0, 0), (54, .aload_n 0, 0, 0, 0), (55, .getfield 13, 6, 0, 0), (58, .iconst 3, 0, 0, 0), (59, .aaload, 0, 0, 0), (60, .aload_n 0, 0, 0, 0), (61, .getfield 16, 6, 1, 0), (64, .iload 4, 0, 0, 0), (66, .iastore, 0, 0, 0), (67, .aload_n 0, 0, 0, 0), (68, .dup, 0, 0, 0), (69, .getfield 16, 6, 1, 0), (72, .iconst 1, 0, 0, 0), (73, .iadd, 0, 0, 0), (74, .putfield 16, 6, 1, 0), (77, .iload_n 2, 0, 0, 0), (78, .ifCond .eq 16, 0, 0, 0), (81, .aload_n 0, 0, 0, 0), (82, .dup, 0, 0, 0), (83, .getfield 20, 6, 2, 0), (86, .iconst 1, 0, 0, 0), (87, .iadd, 0, 0, 0), (88, .putfield 20, 6, 2, 0), (91, .goto 13, 0, 0, 0), (94, .aload_n 0, 0, 0, 0), (95, .dup, 0, 0, 0), (96, .getfield 23, 6, 3, 0), (99, .iconst 1, 0, 0, 0), (100, .iadd, 0, 0, 0), (101, .putfield 23, 6, 3, 0), (104, .return_, 0, 0, 0)]
def zc_55 : List zE := [(0, .aload_n 0, 0, 0, 0), (1, .invokespecial 3, 0, 5, 0), (4, .aload_n 0, 0, 0, 0), (5, .iconst 3, 0, 0, 0), (6, .anewarray 9, 7, 0, 0), (9, .putfield 11, 7, 0, 0), (12, .aload_n 0, 0, 0, 0), (13, .iconst 0, 0, 0, 0), (14, .putfield 17, 7, 1, 0), (17, .aload_n 0, 0, 0, 0), (18, .iconst 0, 0, 0, 0), (19, .putfield 21, 7, 2, 0), (22, .iconst 0, 0, 0, 0), (23, .istore_n 1, 0, 0, 0), (24, .iload_n 1, 0, 0, 0), (25, .aload_n 0, 0, 0, 0), (26, .getfield 11, 7, 0, 0), (29, .arraylength, 0, 0, 0), (30, .if_icmp .ge 22, 0, 0, 0), (33, .aload_n 0, 0, 0, 0), (34, .getfield 11, 7, 0, 0), (37, .iload_n 1, 0, 0, 0), (38, .new 9, 2, 0, 0), (41, .dup, 0, 0, 0), (42, .invokespecial 24, 13, 3, 0), (45, .aastore, 0, 0, 0), (46, .iinc 1 1, 0, 0, 0), (49, .goto (-25), 0, 0, 0), (52, .return_, 0, 0, 0)]
def zc_56 : List zE := [(0, .aload_n 0, 0, 0, 0), (1, .iload_n 1, 0, 0, 0), (2, .iconst 3, 0, 0, 0), (3, .invokestatic 25, 0, 9, 2), (6, .putfield 17, 7, 1, 0), (9, .aload_n 0, 0, 0, 0), (10, .iconst 0, 0, 0, 0), (11, .invokevirtual 31, 57, 0, 1), (14, .return_, 0, 0, 0)]
def zc_57 : List zE := [(0, .aload_n 0, 0, 0, 0), (1, .iload_n 1, 0, 0, 0), (2, .putfield 21, 7, 2, 0), (5, .iconst 0, 0, 0, 0), (6, .istore_n 2, 0, 0, 0), (7, .iload_n 2, 0, 0, 0), (8, .aload_n 0, 0, 0, 0), (9, .getfield 11, 7, 0, 0), (12, .arraylength, 0, 0, 0), (13, .if_icmp .ge 19, 0, 0, 0), (16, .aload_n 0, 0, 0, 0), (17, .getfield 11, 7, 0, 0), (20, .iload_n 2, 0, 0, 0), (21, .aaload, 0, 0, 0), (22, .iconst (-1), 0, 0, 0), (23, .putfield 35, 2, 1, 0), (26, .iinc 2 1, 0, 0, 0), (29, .goto (-22), 0, 0, 0), (32, .return_, 0, 0, 0)]
def zc_58 : List zE := [(0, .bipush 16, 0, 0, 0), (2, .istore_n 1, 0, 0, 0), (3, .iconst 0, 0, 0, 0), (4, .istore_n 2, 0, 0, 0), (5, .iload_n 2, 0, 0, 0), (6, .aload_n 0, 0, 0, 0), (7, .getfield 17, 7, 1, 0), (10, .if_icmp .ge 25, 0, 0, 0), (13, .iload_n 1, 0, 0, 0), (14, .iconst 0, 0, 0, 0), (15, .aload_n 0, 0, 0, 0), (16, .getfield 11, 7, 0, 0), (19, .iload_n 2, 0, 0, 0), (20, .aaload, 0, 0, 0), (21, .getfield 35, 2, 1, 0), (24, .invokestatic 38, 0, 8, 2), (27, .iadd, 0, 0, 0), (28, .istore_n 1, 0, 0, 0), (29, .iinc 2 1, 0, 0, 0), (32, .goto (-27), 0, 0, 0), (35, .iload_n 1, 0, 0, 0), (36, .ireturn, 0, 0, 0)]
def zc_59 : List zE := [(0, .aload_n 0, 0, 0, 0), (1, .invokespecial 3, 0, 5, 0), (4, .aload_n 0, 0, 0, 0), (5, .iconst 3, 0, 0, 0), (6, .anewarray 9, 6, 0, 0), (9, .putfield 11, 8, 4, 0), (12, .aload_n 0, 0, 0, 0), (13, .new 17, 13, 0, 0), (16, .dup, 0, 0, 0), (17, .invokespecial 19, 184, 2, 0), (20, .putfield 20, 8, 5, 0), (23, .aload_n 0, 0, 0, 0), (24, .iconst (-1), 0, 0, 0), (25, .putfield 24, 8, 6, 0), (28, .aload_n 0, 0, 0, 0), (29, .iload_n 1, 0, 0, 0), (30, .putfield 28, 8, 0, 0), (33, .aload_n 0, 0, 0, 0), (34, .iload_n 2, 0, 0, 0), (35, .putfield 31, 8, 1, 0), (38, .aload_n 0, 0, 0, 0), (39, .iload_n 3, 0, 0, 0), (40, .putfield 34, 8, 2, 0), (43, .aload_n 0, 0, 0, 0), (44, .iload 4, 0, 0, 0), (46, .putfield 37, 8, 3, 0), (49, .iconst 0, 0, 0, 0), (50, .istore 5, 0, 0, 0), (52, .iload 5, 0, 0, 0), (54, .aload_n 0, 0, 0, 0), (55, .getfield 11, 8, 4, 0), (58, .arraylength, 0, 0, 0), (59, .if_icmp .ge 23, 0, 0, 0), (62, .aload_n 0, 0, 0, 0), (63, .getfield 11, 8, 4, 0), (66, .iload 5, 0, 0, 0), (68, .new 9, 2, 0, 0), (71, .dup, 0, 0, 0), (72, .invokespecial 41, 13, 3, 0), (75, .aastore, 0, 0, 0), (76, .iinc 5 1, 0, 0, 0), (79, .goto (-27), 0, 0, 0), (82, .return_, 0, 0, 0)]
def zc_60 : List zE := [(0, .iconst 0, 0, 0, 0), (1, .istore_n 2, 0, 0, 0), (2, .iload_n 2, 0, 0, 0), (3, .aload_n 0, 0, 0, 0), (4, .getfield 20, 8, 5, 0), (7, .invokevirtual 42, 187, 0, 0), (10, .if_icmp .ge 30, 0, 0, 0), (13, .aload_n 0, 0, 0, 0), (14, .getfield 20, 8, 5, 0), (17, .iload_n 2, 0, 0, 0), (18, .invokevirtual 46, 190, 0, 1), (21, .checkcast 12, 8, 0, 0), (24, .getfield 34, 8, 2, 0), (27, .aload_n 1, 0, 0, 0), (28, .getfield 34, 8, 2, 0), (31, .if_icmp .ge 9, 0, 0, 0), (34, .iinc 2 1, 0, 0, 0), (37, .goto (-35), 0, 0, 0), (40, .aload_n 0, 0, 0, 0), (41, .getfield 20, 8, 5, 0), (44, .iload_n 2, 0, 0, 0), (45, .aload_n 1, 0, 0, 0), (46, .invokevirtual 50, 193, 0, 2), (49, .return_, 0, 0, 0)]
def zc_61 : List zE := [(0, .aload_n 0, 0, 0, 0), (1, .iload_n 1, 0, 0, 0), (2, .putfield 24, 8, 6, 0), (5, .iconst 0, 0, 0, 0), (6, .istore_n 2, 0, 0, 0), (7, .iload_n 2, 0, 0, 0), (8, .iconst 2, 0, 0, 0), (9, .if_icmp .ge 19, 0, 0, 0), (12, .aload_n 0, 0, 0, 0), (13, .getfield 11, 8, 4, 0), (16, .iload_n 2, 0, 0, 0), (17, .aaload, 0, 0, 0), (18, .iconst (-1), 0, 0, 0), (19, .putfield 54, 2, 1, 0), (22, .iinc 2 1, 0, 0, 0), (25, .goto (-18), 0, 0, 0), (28, .return_, 0, 0, 0)]
def zc_62 : List zE := [(0, .aload_n 0, 0, 0, 0), (1, .getfield 24, 8, 6, 0), (4, .invokestatic 56, 108, 4, 1), (7, .lstore_n 1, 0, 0, 0), (8, .iconst 0, 0, 0, 0), (9, .istore_n 3, 0, 0, 0), (10, .iload_n 3, 0, 0, 0), (11, .aload_n 0, 0, 0, 0), (12, .getfield 20, 8, 5, 0), (15, .invokevirtual 42, 187, 0, 0), (18, .if_icmp .ge 29, 0, 0, 0), (21, .lload_n 1, 0, 0, 0), (22, .aload_n 0, 0, 0, 0), (23, .getfield 20, 8, 5, 0), (26, .iload_n 3, 0, 0, 0), (27, .invokevirtual 46, 190, 0, 1), (30, .checkcast 12, 8, 0, 0), (33, .getfield 24, 8, 6, 0), (36, .invokestatic 56, 108, 4, 1), (39, .lor, 0, 0, 0), (40, .lstore_n 1, 0, 0, 0), (41, .iinc 3 1, 0, 0, 0), (44, .goto (-34), 0, 0, 0), (47, .lload_n 1, 0, 0, 0), (48, .lreturn, 0, 0, 0)]
def zc_63 : List zE := [(0, .iconst 0, 0, 0, 0), (1, .istore_n 2, 0, 0, 0), (2, .iconst 0, 0, 0, 0), (3, .istore_n 3, 0, 0, 0), (4, .iload_n 3, 0, 0, 0), (5, .aload_n 0, 0, 0, 0), (6, .getfield 20, 8, 5, 0), (9, .invokevirtual 42, 187, 0, 0), (12, .if_icmp .ge 34, 0, 0, 0), (15, .aload_n 0, 0, 0, 0), (16, .getfield 20, 8, 5, 0), (19, .iload_n 3, 0, 0, 0), (20, .invokevirtual 46, 190, 0, 1), (23, .checkcast 12, 8, 0, 0), (26, .getfield 11, 8, 4, 0), (29, .iload_n 1, 0, 0, 0), (30, .aaload, 0, 0, 0), (31, .invokevirtual 60, 14, 0, 0), (34, .ifCond .ne 6, 0, 0, 0), (37, .iinc 2 1, 0, 0, 0), (40, .iinc 3 1, 0, 0, 0), (43, .goto (-39), 0, 0, 0), (46, .iload_n 2, 0, 0, 0), (47, .ireturn, 0, 0, 0)]
def zc_64 : List zE := [(0, .aload_n 0, 0, 0, 0), (1, .invokespecial 3, 0, 5, 0), (4, .aload_n 0, 0, 0, 0), (5, .new 9, 2, 0, 0), (8, .dup, 0, 0, 0), (9, .invokespecial 11, 13, 3, 0), (12, .putfield 12, 9, 0, 0), (15, .aload_n 0, 0, 0, 0), (16, .iconst 0, 0, 0, 0), (17, .putfield 18, 9, 1, 0), (20, .return_, 0, 0, 0)]
def zc_65 : List zE := [(0, .aload_n 3, 0, 0, 0), (1, .aload_n 1, 0, 0, 0), (2, .getfield 22, 0, 1, 0), (5, .invokevirtual 28, 187, 0, 0), (8, .invokevirtual 34, 56, 0, 1), (11, .aload_n 0, 0, 0, 0), (12, .getfield 12, 9, 0, 0), (15, .iconst 0, 0, 0, 0), (16, .putfield 40, 2, 1, 0), (19, .aload_n 0, 0, 0, 0), (20, .iconst 0, 0, 0, 0), (21, .putfield 18, 9, 1, 0), (24, .iconst 0, 0, 0, 0), (25, .istore 4, 0, 0, 0), (27, .iload 4, 0, 0, 0), (29, .aload_n 1, 0, 0, 0), (30, .getfield 43, 0, 5, 0), (33, .if_icmp .ge 47, 0, 0, 0), (36, .aload_n 0, 0, 0, 0), (37, .getfield 18, 9, 1, 0), (40, .ifCond .eq 11, 0, 0, 0), (43, .aload_n 0, 0, 0, 0), (44, .iconst 0, 0, 0, 0), (45, .putfield 18, 9, 1, 0), (48, .goto 26, 0, 0, 0), (51, .aload_n 0, 0, 0, 0), (52, .aload_n 1, 0, 0, 0), (53, .iload 4, 0, 0, 0), (55, .iload_n 2, 0, 0, 0), (56, .aload_n 3, 0, 0, 0), (57, .invokevirtual 46, 66, 0, 4), (60, .istore 5, 0, 0, 0), (62, .iload 5, 0, 0, 0), (64, .ifCond .eq 10, 0, 0, 0), (67, .aload_n 3, 0, 0, 0), (68, .iload 5, 0, 0, 0), (70, .invokevirtual 50, 57, 0, 1), (73, .return_, 0, 0, 0), (74, .iinc 4 1, 0, 0, 0), (77, .goto (-50), 0, 0, 0), (80, .return_, 0, 0, 0)]
def zc_66 : List zE := [(0, .aload_n 1, 0, 0, 0), (1, .getfield 53, 0, 3, 0), (4, .iload_n 2, 0, 0, 0), (5, .iaload, 0, 0, 0), (6, .istore 5, 0, 0, 0), (8, .aload_n 1, 0, 0, 0), (9, .getfield 57, 0, 2, 0), (12, .iload_n 2, 0, 0, 0), (13, .iaload, 0, 0, 0), (14, .tableswitch 118 0 11 #[62, 71, 89, 98, 118, 118, 118, 118, 118, 107, 118, 116], 0, 0, 0), (76, .aload_n 0, 0, 0, 0), (77, .aload_n 1, 0, 0, 0), (78, .iload 5, 0, 0, 0), (80, .iload_n 3, 0, 0, 0), (81, .invokevirtual 60, 68, 0, 3), (84, .ireturn, 0, 0, 0), (85, .aload_n 0, 0, 0, 0), (86, .getfield 12, 9, 0, 0), (89, .iload 5, 0, 0, 0), (91, .invokevirtual 64, 15, 0, 1), (94, .ifCond .eq 7, 0, 0, 0), (97, .iconst 0, 0, 0, 0), (98, .goto 4, 0, 0, 0), (101, .iconst 2, 0, 0, 0), (102, .ireturn, 0, 0, 0), (103, .aload_n 0, 0, 0, 0), (104, .aload_n 1, 0, 0, 0), (105, .iload 5, 0, 0, 0), (107, .iload_n 3, 0, 0, 0), (108, .invokevirtual 68, 69, 0, 3), (111, .ireturn, 0, 0, 0), (112, .aload_n 0, 0, 0, 0), (113, .aload 4, 0, 0, 0), (115, .iload 5, 0, 0, 0), (117, .invokevirtual 71, 70, 0, 2), (120, .ireturn, 0, 0, 0), (121, .aload_n 0, 0, 0, 0), (122, .aload_n 1, 0, 0, 0), (123, .iload 5, 0, 0, 0), (125, .iload_n 3, 0, 0, 0), (126, .invokevirtual 75, 71, 0, 3), (129, .ireturn, 0, 0, 0), (130, .iconst 5, 0, 0, 0), (131, .ireturn, 0, 0, 0), (132, .aload_n 0, 0, 0, 0), (133, .aload_n 1, 0, 0, 0), (134, .getfield 57, 0, 2, 0), (137, .iload_n 2, 0, 0, 0), (138, .iaload, 0, 0, 0), (139, .iload 5, 0, 0, 0), (141, .invokevirtual 78, 67, 0, 2), (144, .ireturn, 0, 0, 0)]
def zc_67 : List zE := [(0, .iload_n 1, 0, 0, 0), (1, .tableswitch 130 4 12 #[51, 60, 69, 85, 101, 130, 111, 130, 120], 0, 0, 0), (52, .aload_n 0, 0, 0, 0), (53, .getfield 12, 9, 0, 0), (56, .invokevirtual 82, 19, 0, 0), (59, .iconst 0, 0, 0, 0), (60, .ireturn, 0, 0, 0), (61, .aload_n 0, 0, 0, 0), (62, .getfield 12, 9, 0, 0), (65, .invokevirtual 85, 20, 0, 0), (68, .iconst 0, 0, 0, 0), (69, .ireturn, 0, 0, 0), (70, .aload_n 0, 0, 0, 0), (71, .getfield 12, 9, 0, 0), (74, .aload_n 0, 0, 0, 0), (75, .getfield 12, 9, 0, 0), (78, .getfield 40, 2, 1, 0), (81, .invokevirtual 88, 22, 0, 1), (84, .iconst 0, 0, 0, 0), (85, .ireturn, 0, 0, 0), (86, .aload_n 0, 0, 0, 0), (87, .getfield 12, 9, 0, 0), (90, .aload_n 0, 0, 0, 0), (91, .getfield 12, 9, 0, 0), (94, .invokevirtual 91, 21, 0, 0), (97, .invokevirtual 88, 22, 0, 1), (100, .iconst 0, 0, 0, 0), (101, .ireturn, 0, 0, 0), (102, .aload_n 0, 0, 0, 0), (103, .getfield 12, 9, 0, 0), (106, .iload_n 2, 0, 0, 0), (107, .invokevirtual 94, 23, 0, 1), (110, .iconst 0, 0, 0, 0), (111, .ireturn, 0, 0, 0), (112, .aload_n 0, 0, 0, 0), (113, .getfield 12, 9, 0, 0), (116, .invokevirtual 97, 24, 0, 0), (119, .iconst 0, 0, 0, 0), (120, .ireturn, 0, 0, 0), (121, .aload_n 0, 0, 0, 0), (122, .getfield 12, 9, 0, 0), (125, .iload_n 2, 0, 0, 0), (126, .invokevirtual 100, 26, 0, 1), (129, .iconst 0, 0, 0, 0), (130, .ireturn, 0, 0, 0), (131, .aload_n 0, 0, 0, 0), (132, .getfield 12, 9, 0, 0), (135, .aload_n 0, 0, 0, 0), (136, .getfield 12, 9, 0, 0), (139, .invokevirtual 103, 16, 0, 1), (142, .ifCond .eq 7, 0, 0, 0), (145, .iconst 0, 0, 0, 0), (146, .goto 4, 0, 0, 0), (149, .iconst 2, 0, 0, 0), (150, .ireturn, 0, 0, 0)]
def zc_68 : List zE := [(0, .iload_n 2, 0, 0, 0), (1, .aload_n 1, 0, 0, 0), (2, .getfield 107, 0, 0, 0), (5, .invokevirtual 28, 187, 0, 0), (8, .if_icmp .lt 5, 0, 0, 0), (11, .iconst 3, 0, 0, 0), (12, .ireturn, 0, 0, 0), (13, .aload_n 1, 0, 0, 0), (14, .getfield 107, 0, 0, 0), (17, .iload_n 2, 0, 0, 0), (18, .invokevirtual 110, 190, 0, 1), (21, .checkcast 114, 8, 0, 0), (24, .astore 4, 0, 0, 0), (26, .aload 4, 0, 0, 0), (28, .getfield 116, 8, 3, 0), (31, .ifCond .eq 5, 0, 0, 0), (34, .iconst 4, 0, 0, 0), (35, .ireturn, 0, 0, 0), (36, .aload 4, 0, 0, 0), (38, .getfield 119, 8, 4, 0), (41, .iload_n 3, 0, 0, 0), (42, .aaload, 0, 0, 0), (43, .invokevirtual 123, 14, 0, 0), (46, .ifCond .eq 5, 0, 0, 0), (49, .iconst 1, 0, 0, 0), (50, .ireturn, 0, 0, 0), (51, .aload_n 0, 0, 0, 0), (52, .getfield 12, 9, 0, 0), (55, .aload 4, 0, 0, 0), (57, .getfield 119, 8, 4, 0), (60, .iload_n 3, 0, 0, 0), (61, .aaload, 0, 0, 0), (62, .invokevirtual 103, 16, 0, 1), (65, .ifCond .eq 7, 0, 0, 0), (68, .iconst 0, 0, 0, 0), (69, .goto 4, 0, 0, 0), (72, .iconst 2, 0, 0, 0), (73, .ireturn, 0, 0, 0)]
def zc_69 : List zE := [(0, .iload_n 2, 0, 0, 0), (1, .aload_n 1, 0, 0, 0), (2, .getfield 107, 0, 0, 0), (5, .invokevirtual 28, 187, 0, 0), (8, .if_icmp .lt 5, 0, 0, 0), (11, .iconst 3, 0, 0, 0), (12, .ireturn, 0, 0, 0), (13, .aload_n 1, 0, 0, 0), (14, .getfield 107, 0, 0, 0), (17, .iload_n 2, 0, 0, 0), (18, .invokevirtual 110, 190, 0, 1), (21, .checkcast 114, 8, 0, 0), (24, .astore 4, 0, 0, 0), (26, .aload 4, 0, 0, 0), (28, .getfield 116, 8, 3, 0), (31, .ifCond .ne 5, 0, 0, 0), (34, .iconst 4, 0, 0, 0), (35, .ireturn, 0, 0, 0), (36, .iconst 0, 0, 0, 0), (37, .istore 5, 0, 0, 0), (39, .iload 5, 0, 0, 0), (41, .aload 4, 0, 0, 0), (43, .getfield 127, 8, 5, 0), (46, .invokevirtual 28, 187, 0, 0), (49, .if_icmp .ge 57, 0, 0, 0), (52, .aload 4, 0, 0, 0), (54, .getfield 127, 8, 5, 0), (57, .iload 5, 0, 0, 0), (59, .invokevirtual 110, 190, 0, 1), (62, .checkcast 114, 8, 0, 0), (65, .astore 6, 0, 0, 0), (67, .aload 6, 0, 0, 0), (69, .getfield 119, 8, 4, 0), (72, .iload_n 3, 0, 0, 0), (73, .aaload, 0, 0, 0), (74, .invokevirtual 123, 14, 0, 0), (77, .ifCond .ne 23, 0, 0, 0), (80, .aload_n 0, 0, 0, 0), (81, .getfield 12, 9, 0, 0), (84, .bipush 96, 0, 0, 0), (86, .aload 6, 0, 0, 0), (88, .getfield 130, 8, 2, 0), (91, .iadd, 0, 0, 0), (92, .invokevirtual 64, 15, 0, 1), (95, .ifCond .ne 5, 0, 0, 0), (98, .iconst 2, 0, 0, 0), (99, .ireturn, 0, 0, 0), (100, .iinc 5 1, 0, 0, 0), (103, .goto (-64), 0, 0, 0), (106, .iconst 0, 0, 0, 0), (107, .ireturn, 0, 0, 0)]
def zc_70 : List zE := [(0, .iload_n 2, 0, 0, 0), (1, .aload_n 1, 0, 0, 0), (2, .getfield 133, 7, 1, 0), (5, .if_icmp .lt 5, 0, 0, 0), (8, .iconst 3, 0, 0, 0), (9, .ireturn, 0, 0, 0), (10, .aload_n 1, 0, 0, 0), (11, .getfield 135, 7, 0, 0), (14, .iload_n 2, 0, 0, 0), (15, .aaload, 0, 0, 0), (16, .aload_n 0, 0, 0, 0), (17, .getfield 12, 9, 0, 0), (20, .invokevirtual 136, 17, 0, 1), (23, .aload_n 0, 0, 0, 0), (24, .getfield 12, 9, 0, 0), (27, .iconst 0, 0, 0, 0), (28, .putfield 40, 2, 1, 0), (31, .iconst 0, 0, 0, 0), (32, .ireturn, 0, 0, 0)]
def zc_71 : List zE := [(0, .iload_n 2, 0, 0, 0), (1, .aload_n 1, 0, 0, 0), (2, .getfield 107, 0, 0, 0), (5, .invokevirtual 28, 187, 0, 0), (8, .if_icmp .lt 5, 0, 0, 0), (11, .iconst 3, 0, 0, 0), (12, .ireturn, 0, 0, 0), (13, .aload_n 1, 0, 0, 0), (14, .getfield 107, 0, 0, 0), (17, .iload_n 2, 0, 0, 0), (18, .invokevirtual 110, 190, 0, 1), (21, .checkcast 114, 8, 0, 0), (24, .astore 4, 0, 0, 0), (26, .aload 4, 0, 0, 0), (28, .getfield 116, 8, 3, 0), (31, .ifCond .eq 5, 0, 0, 0), (34, .iconst 4, 0, 0, 0), (35, .ireturn, 0, 0, 0), (36, .aload_n 0, 0, 0, 0), (37, .aload 4, 0, 0, 0), (39, .getfield 119, 8, 4, 0), (42, .iload_n 3, 0, 0, 0), (43, .aaload, 0, 0, 0), (44, .invokevirtual 123, 14, 0, 0), (47, .ifCond .ne 7, 0, 0, 0), (50, .iconst 1, 0, 0, 0), (51, .goto 4, 0, 0, 0), (54, .iconst 0, 0, 0, 0), (55, .putfield 18, 9, 1, 0), (58, .iconst 0, 0, 0, 0), (59, .ireturn, 0, 0, 0)]
def zc_72 : List zE := [(0, .aload_n 0, 0, 0, 0), (1, .invokespecial 3, 0, 5, 0), (4, .aload_n 0, 0, 0, 0), (5, .new 9, 13, 0, 0), (8, .dup, 0, 0, 0), (9, .invokespecial 11, 184, 2, 0), (12, .putfield 12, 10, 0, 0), (15, .aload_n 0, 0, 0, 0), (16, .invokevirtual 18, 73, 0, 0), (19, .return_, 0, 0, 0)]
def zc_73 : List zE := [(0, .aload_n 0, 0, 0, 0), (1, .getfield 12, 10, 0, 0), (4, .invokevirtual 21, 196, 0, 0), (7, .aload_n 0, 0, 0, 0), (8, .getfield 12, 10, 0, 0), (11, .new 24, 8, 0, 0), (14, .dup, 0, 0, 0), (15, .iconst 0, 0, 0, 0), (16, .iconst (-1), 0, 0, 0), (17, .iconst 0, 0, 0, 0), (18, .iconst 1, 0, 0, 0), (19, .invokespecial 26, 59, 2, 4), (22, .invokevirtual 29, 192, 0, 1), (25, .pop, 0, 0, 0), (26, .return_, 0, 0, 0)]
def zc_74 : List zE := [(0, .aload_n 0, 0, 0, 0), (1, .getfield 12, 10, 0, 0), (4, .invokevirtual 33, 187, 0, 0), (7, .ireturn, 0, 0, 0)]
def zc_75 : List zE := [(0, .iload_n 1, 0, 0, 0), (1, .ifCond .lt 18, 0, 0, 0), (4, .iload_n 1, 0, 0, 0), (5, .aload_n 0, 0, 0, 0), (6, .getfield 12, 10, 0, 0), (9, .invokevirtual 33, 187, 0, 0), (12, .if_icmp .ge 7, 0, 0, 0), (15, .iconst 1, 0, 0, 0), (16, .goto 4, 0, 0, 0), (19, .iconst 0, 0, 0, 0), (20, .ireturn, 0, 0, 0)]
def zc_76 : List zE := [(0, .aload_n 0, 0, 0, 0), (1, .getfield 12, 10, 0, 0), (4, .iload_n 1, 0, 0, 0), (5, .invokevirtual 37, 190, 0, 1), (8, .checkcast 24, 8, 0, 0), (11, .areturn, 0, 0, 0)]
def zc_77 : List zE := [(0, .iconst 1, 0, 0, 0), (1, .istore_n 3, 0, 0, 0), (2, .iload_n 3, 0, 0, 0), (3, .aload_n 0, 0, 0, 0), (4, .getfield 12, 10, 0, 0), (7, .invokevirtual 33, 187, 0, 0), (10, .if_icmp .ge 47, 0, 0, 0), (13, .aload_n 0, 0, 0, 0), (14, .getfield 12, 10, 0, 0), (17, .iload_n 3, 0, 0, 0), (18, .invokevirtual 37, 190, 0, 1), (21, .checkcast 24, 8, 0, 0), (24, .getfield 41, 8, 1, 0), (27, .iload_n 1, 0, 0, 0), (28, .if_icmp .ne 23, 0, 0, 0), (31, .aload_n 0, 0, 0, 0), (32, .getfield 12, 10, 0, 0), (35, .iload_n 3, 0, 0, 0), (36, .invokevirtual 37, 190, 0, 1), (39, .checkcast 24, 8, 0, 0), (42, .getfield 45, 8, 2, 0), (45, .iload_n 2, 0, 0, 0), (46, .if_icmp .ne 5, 0, 0, 0), (49, .iconst 1, 0, 0, 0), (50, .ireturn, 0, 0, 0), (51, .iinc 3 1, 0, 0, 0), (54, .goto (-52), 0, 0, 0), (57, .iconst 0, 0, 0, 0), (58, .ireturn, 0, 0, 0)]
def zc_78 : List zE := [(0, .new 24, 8, 0, 0), (3, .dup, 0, 0, 0), (4, .aload_n 0, 0, 0, 0), (5, .getfield 12, 10, 0, 0), (8, .invokevirtual 33, 187, 0, 0), (11, .iload_n 1, 0, 0, 0), (12, .iload_n 2, 0, 0, 0), (13, .iload_n 3, 0, 0, 0), (14, .invokespecial 26, 59, 2, 4), (17, .astore 4, 0, 0, 0), (19, .aload_n 0, 0, 0, 0), (20, .getfield 12, 10, 0, 0), (23, .aload 4, 0, 0, 0), (25, .invokevirtual 29, 192, 0, 1), (28, .pop, 0, 0, 0), (29, .iload_n 3, 0, 0, 0), (30, .ifCond .ne 13, 0, 0, 0), (33, .aload_n 0, 0, 0, 0), (34, .iload_n 1, 0, 0, 0), (35, .invokevirtual 48, 76, 0, 1), (38, .aload 4, 0, 0, 0), (40, .invokevirtual 52, 60, 0, 1), (43, .aload 4, 0, 0, 0), (45, .getfield 56, 8, 0, 0), (48, .ireturn, 0, 0, 0)]
def zc_79 : List zE := [(0, .iconst 0, 0, 0, 0), (1, .istore_n 3, 0, 0, 0), (2, .iconst 0, 0, 0, 0), (3, .istore 4, 0, 0, 0), (5, .iload 4, 0, 0, 0), (7, .aload_n 0, 0, 0, 0), (8, .getfield 12, 10, 0, 0), (11, .invokevirtual 33, 187, 0, 0), (14, .if_icmp .ge 75, 0, 0, 0), (17, .aload_n 0, 0, 0, 0), (18, .getfield 12, 10, 0, 0), (21, .iload 4, 0, 0, 0), (23, .invokevirtual 37, 190, 0, 1), (26, .checkcast 24, 8, 0, 0), (29, .astore 5, 0, 0, 0), (31, .aload 5, 0, 0, 0), (33, .getfield 59, 8, 6, 0), (36, .iconst (-1), 0, 0, 0), (37, .if_icmp .ne 46, 0, 0, 0), (40, .aload 5, 0, 0, 0), (42, .getfield 62, 8, 4, 0), (45, .iload_n 2, 0, 0, 0), (46, .aaload, 0, 0, 0), (47, .aload 5, 0, 0, 0), (49, .getfield 62, 8, 4, 0), (52, .iload_n 1, 0, 0, 0), (53, .aaload, 0, 0, 0), (54, .invokevirtual 66, 18, 0, 1), (57, .ifCond .eq 6, 0, 0, 0), (60, .goto 23, 0, 0, 0), (63, .aload 5, 0, 0, 0), (65, .getfield 62, 8, 4, 0), (68, .iload_n 2, 0, 0, 0), (69, .aaload, 0, 0, 0), (70, .aload 5, 0, 0, 0), (72, .getfield 62, 8, 4, 0), (75, .iload_n 1, 0, 0, 0), (76, .aaload, 0, 0, 0), (77, .invokevirtual 72, 17, 0, 1), (80, .iinc 3 1, 0, 0, 0), (83, .iinc 4 1, 0, 0, 0), (86, .goto (-81), 0, 0, 0), (89, .iload_n 3, 0, 0, 0), (90, .ireturn, 0, 0, 0)]
def zc_80 : List zE := [(0, .iconst 0, 0, 0, 0), (1, .istore_n 3, 0, 0, 0), (2, .iload_n 3, 0, 0, 0), (3, .aload_n 0, 0, 0, 0), (4, .getfield 12, 10, 0, 0), (7, .invokevirtual 33, 187, 0, 0), (10, .if_icmp .ge 53, 0, 0, 0), (13, .aload_n 0, 0, 0, 0), (14, .getfield 12, 10, 0, 0), (17, .iload_n 3, 0, 0, 0), (18, .invokevirtual 37, 190, 0, 1), (21, .checkcast 24, 8, 0, 0), (24, .astore 4, 0, 0, 0), (26, .aload 4, 0, 0, 0), (28, .getfield 59, 8, 6, 0), (31, .iconst (-1), 0, 0, 0), (32, .if_icmp .eq 25, 0, 0, 0), (35, .aload 4, 0, 0, 0), (37, .getfield 62, 8, 4, 0), (40, .iload_n 1, 0, 0, 0), (41, .aaload, 0, 0, 0), (42, .aload 4, 0, 0, 0), (44, .getfield 62, 8, 4, 0), (47, .iload_n 2, 0, 0, 0), (48, .aaload, 0, 0, 0), (49, .invokevirtual 66, 18, 0, 1), (52, .ifCond .ne 5, 0, 0, 0), (55, .iconst 0, 0, 0, 0), (56, .ireturn, 0, 0, 0), (57, .iinc 3 1, 0, 0, 0), (60, .goto (-58), 0, 0, 0), (63, .iconst 1, 0, 0, 0), (64, .ireturn, 0, 0, 0)]
def zc_81 : List zE := [(0, .aload_n 0, 0, 0, 0), (1, .invokespecial 3, 0, 5, 0), (4, .aload_n 0, 0, 0, 0), (5, .new 9, 10, 0, 0), (8, .dup, 0, 0, 0), (9, .invokespecial 11, 72, 2, 0), (12, .putfield 12, 11, 0, 0), (15, .aload_n 0, 0, 0, 0), (16, .new 16, 2, 0, 0), (19, .dup, 0, 0, 0), (20, .invokespecial 18, 13, 3, 0), (23, .putfield 19, 11, 1, 0), (26, .aload_n 0, 0, 0, 0), (27, .new 23, 4, 0, 0), (30, .dup, 0, 0, 0), (31, .invokespecial 25, 29, 3, 0), (34, .putfield 26, 11, 2, 0), (37, .aload_n 0, 0, 0, 0), (38, .new 30, 1, 0, 0), (41, .dup, 0, 0, 0), (42, .invokespecial 32, 5, 3, 0), (45, .putfield 33, 11, 3, 0), (48, .aload_n 0, 0, 0, 0), (49, .new 37, 9, 0, 0), (52, .dup, 0, 0, 0), (53, .invokespecial 39, 64, 3, 0), (56, .putfield 40, 11, 4, 0), (59, .aload_n 0, 0, 0, 0), (60, .new 44, 6, 0, 0), (63, .dup, 0, 0, 0), (64, .invokespecial 46, 51, 3, 0), (67, .putfield 47, 11, 5, 0), (70, .aload_n 0, 0, 0, 0), (71, .new 51, 5, 0, 0), (74, .dup, 0, 0, 0), (75, .invokespecial 53, 40, 3, 0), (78, .putfield 54, 11, 6, 0), (81, .aload_n 0, 0, 0, 0), (82, .new 58, 7, 0, 0), (85, .dup, 0, 0, 0), (86, .invokespecial 60, 55, 2, 0), (89, .putfield 61, 11, 7, 0), (92, .aload_n 0, 0, 0, 0), (93, .getfield 19, 11, 1, 0), (96, .iconst 0, 0, 0, 0), (97, .putfield 65, 2, 1, 0), (100, .return_, 0, 0, 0)]
def zc_82 : List zE := [(0, .aload_n 0, 0, 0, 0), (1, .getfield 12, 11, 0, 0), (4, .iload_n 1, 0, 0, 0), (5, .invokevirtual 69, 75, 0, 1), (8, .ifCond .eq 14, 0, 0, 0), (11, .iload_n 2, 0, 0, 0), (12, .iconst 1, 0, 0, 0), (13, .if_icmp .lt 9, 0, 0, 0), (16, .iload_n 2, 0, 0, 0), (17, .bipush 26, 0, 0, 0), (19, .if_icmp .le 6, 0, 0, 0), (22, .bipush (-2), 0, 0, 0), (24, .ireturn, 0, 0, 0), (25, .aload_n 0, 0, 0, 0), (26, .getfield 12, 11, 0, 0), (29, .iload_n 1, 0, 0, 0), (30, .invokevirtual 73, 76, 0, 1), (33, .getfield 77, 8, 3, 0), (36, .ifCond .ne 6, 0, 0, 0), (39, .bipush (-3), 0, 0, 0), (41, .ireturn, 0, 0, 0), (42, .aload_n 0, 0, 0, 0), (43, .getfield 12, 11, 0, 0), (46, .iload_n 1, 0, 0, 0), (47, .iload_n 2, 0, 0, 0), (48, .invokevirtual 83, 77, 0, 2), (51, .ifCond .eq 6, 0, 0, 0), (54, .bipush (-4), 0, 0, 0), (56, .ireturn, 0, 0, 0), (57, .aload_n 0, 0, 0, 0), (58, .getfield 12, 11, 0, 0), (61, .invokevirtual 87, 74, 0, 0), (64, .bipush 60, 0, 0, 0), (66, .if_icmp .lt 6, 0, 0, 0), (69, .bipush (-6), 0, 0, 0), (71, .ireturn, 0, 0, 0), (72, .aload_n 0, 0, 0, 0), (73, .getfield 12, 11, 0, 0), (76, .iload_n 1, 0, 0, 0), (77, .iload_n 2, 0, 0, 0), (78, .iload_n 3, 0, 0, 0), (79, .invokevirtual 90, 78, 0, 3), (82, .ireturn, 0, 0, 0)]
def zc_83 : List zE := [(0, .aload_n 0, 0, 0, 0), (1, .getfield 12, 11, 0, 0), (4, .iload_n 1, 0, 0, 0), (5, .invokevirtual 69, 75, 0, 1), (8, .ifCond .ne 6, 0, 0, 0), (11, .bipush (-2), 0, 0, 0), (13, .ireturn, 0, 0, 0), (14, .aload_n 0, 0, 0, 0), (15, .getfield 12, 11, 0, 0), (18, .iload_n 1, 0, 0, 0), (19, .invokevirtual 73, 76, 0, 1), (22, .astore_n 3, 0, 0, 0), (23, .iload_n 2, 0, 0, 0), (24, .tableswitch 60 0 3 #[32, 37, 42, 55], 0, 0, 0), (56, .aload_n 3, 0, 0, 0), (57, .getfield 94, 8, 1, 0), (60, .ireturn, 0, 0, 0), (61, .aload_n 3, 0, 0, 0), (62, .getfield 97, 8, 2, 0), (65, .ireturn, 0, 0, 0), (66, .aload_n 3, 0, 0, 0), (67, .getfield 77, 8, 3, 0), (70, .ifCond .eq 7, 0, 0, 0), (73, .iconst 1, 0, 0, 0), (74, .goto 4, 0, 0, 0), (77, .iconst 0, 0, 0, 0), (78, .ireturn, 0, 0, 0), (79, .aload_n 3, 0, 0, 0), (80, .getfield 100, 8, 6, 0), (83, .ireturn, 0, 0, 0), (84, .bipush (-2), 0, 0, 0), (86, .ireturn, 0, 0, 0)]
def zc_84 : List zE := [(0, .iload_n 3, 0, 0, 0), (1, .iconst 1, 0, 0, 0), (2, .if_icmp .lt 9, 0, 0, 0), (5, .iload_n 3, 0, 0, 0), (6, .bipush 8, 0, 0, 0), (8, .if_icmp .le 6, 0, 0, 0), (11, .bipush (-2), 0, 0, 0), (13, .ireturn, 0, 0, 0), (14, .aload_n 0, 0, 0, 0), (15, .getfield 19, 11, 1, 0), (18, .getfield 65, 2, 1, 0), (21, .iload_n 3, 0, 0, 0), (22, .iadd, 0, 0, 0), (23, .bipush 64, 0, 0, 0), (25, .if_icmp .le 6, 0, 0, 0), (28, .bipush (-6), 0, 0, 0), (30, .ireturn, 0, 0, 0), (31, .iload_n 3, 0, 0, 0), (32, .iconst 1, 0, 0, 0), (33, .isub, 0, 0, 0), (34, .istore 4, 0, 0, 0), (36, .iload 4, 0, 0, 0), (38, .ifCond .lt 29, 0, 0, 0), (41, .aload_n 0, 0, 0, 0), (42, .getfield 19, 11, 1, 0), (45, .lload_n 1, 0, 0, 0), (46, .bipush 8, 0, 0, 0), (48, .iload 4, 0, 0, 0), (50, .imul, 0, 0, 0), (51, .lushr, 0, 0, 0), (52, .l2i, 0, 0, 0), (53, .sipush 255, 0, 0, 0), (56, .iand, 0, 0, 0), (57, .invokevirtual 103, 15, 0, 1), (60, .pop, 0, 0, 0), (61, .iinc 4 (-1), 0, 0, 0), (64, .goto (-28), 0, 0, 0), (67, .aload_n 0, 0, 0, 0), (68, .getfield 19, 11, 1, 0), (71, .getfield 65, 2, 1, 0), (74, .ireturn, 0, 0, 0)]
def zc_85 : List zE := [(0, .aload_n 0, 0, 0, 0), (1, .iload_n 1, 0, 0, 0), (2, .iload_n 2, 0, 0, 0), (3, .invokevirtual 106, 110, 0, 2), (6, .istore_n 3, 0, 0, 0), (7, .iload_n 3, 0, 0, 0), (8, .ifCond .eq 5, 0, 0, 0), (11, .iload_n 3, 0, 0, 0), (12, .ireturn, 0, 0, 0), (13, .aload_n 0, 0, 0, 0), (14, .getfield 12, 11, 0, 0), (17, .iload_n 2, 0, 0, 0), (18, .invokevirtual 73, 76, 0, 1), (21, .getfield 110, 8, 4, 0), (24, .iload_n 1, 0, 0, 0), (25, .aaload, 0, 0, 0), (26, .aload_n 0, 0, 0, 0), (27, .getfield 19, 11, 1, 0), (30, .invokevirtual 114, 17, 0, 1), (33, .aload_n 0, 0, 0, 0), (34, .getfield 19, 11, 1, 0), (37, .iconst 0, 0, 0, 0), (38, .putfield 65, 2, 1, 0), (41, .aload_n 0, 0, 0, 0), (42, .getfield 12, 11, 0, 0), (45, .iload_n 2, 0, 0, 0), (46, .invokevirtual 73, 76, 0, 1), (49, .getfield 110, 8, 4, 0), (52, .iload_n 1, 0, 0, 0), (53, .aaload, 0, 0, 0), (54, .getfield 65, 2, 1, 0), (57, .ireturn, 0, 0, 0)]
def zc_86 : List zE := [(0, .aload_n 0, 0, 0, 0), (1, .iload_n 1, 0, 0, 0), (2, .iload_n 2, 0, 0, 0), (3, .invokevirtual 106, 110, 0, 2), (6, .istore_n 3, 0, 0, 0), (7, .iload_n 3, 0, 0, 0), (8, .ifCond .eq 5, 0, 0, 0), (11, .iload_n 3, 0, 0, 0), (12, .ireturn, 0, 0, 0), (13, .aload_n 0, 0, 0, 0), (14, .getfield 12, 11, 0, 0), (17, .iload_n 2, 0, 0, 0), (18, .invokevirtual 73, 76, 0, 1), (21, .getfield 110, 8, 4, 0), (24, .iload_n 1, 0, 0, 0), (25, .aaload, 0, 0, 0), (26, .astore 4, 0, 0, 0), (28, .aload 4, 0, 0, 0), (30, .getfield 65, 2, 1, 0), (33, .istore 5, 0, 0, 0), (35, .aload 4, 0, 0, 0), (37, .iconst (-1), 0, 0, 0), (38, .putfield 65, 2, 1, 0), (41, .iload 5, 0, 0, 0), (43, .ireturn, 0, 0, 0)]
def zc_87 : List zE := [(0, .iload_n 1, 0, 0, 0), (1, .invokestatic 118, 107, 1, 1), (4, .ifCond .ne 6, 0, 0, 0), (7, .bipush (-2), 0, 0, 0), (9, .ireturn, 0, 0, 0), (10, .aload_n 0, 0, 0, 0), (11, .getfield 12, 11, 0, 0), (14, .iconst 1, 0, 0, 0), (15, .iload_n 1, 0, 0, 0), (16, .isub, 0, 0, 0), (17, .iload_n 1, 0, 0, 0), (18, .invokevirtual 121, 79, 0, 2), (21, .ireturn, 0, 0, 0)]
def zc_88 : List zE := [(0, .aload_n 0, 0, 0, 0), (1, .iload_n 1, 0, 0, 0), (2, .iload_n 2, 0, 0, 0), (3, .invokevirtual 124, 109, 0, 2), (6, .istore_n 3, 0, 0, 0), (7, .iload_n 3, 0, 0, 0), (8, .ifCond .eq 5, 0, 0, 0), (11, .iload_n 3, 0, 0, 0), (12, .ireturn, 0, 0, 0), (13, .aload_n 0, 0, 0, 0), (14, .getfield 12, 11, 0, 0), (17, .iload_n 2, 0, 0, 0), (18, .invokevirtual 73, 76, 0, 1), (21, .getfield 110, 8, 4, 0), (24, .iload_n 1, 0, 0, 0), (25, .aaload, 0, 0, 0), (26, .getfield 65, 2, 1, 0), (29, .ireturn, 0, 0, 0)]
def zc_89 : List zE := [(0, .aload_n 0, 0, 0, 0), (1, .iload_n 1, 0, 0, 0), (2, .iload_n 2, 0, 0, 0), (3, .invokevirtual 124, 109, 0, 2), (6, .istore 4, 0, 0, 0), (8, .iload 4, 0, 0, 0), (10, .ifCond .eq 6, 0, 0, 0), (13, .iload 4, 0, 0, 0), (15, .ireturn, 0, 0, 0), (16, .aload_n 0, 0, 0, 0), (17, .getfield 12, 11, 0, 0), (20, .iload_n 2, 0, 0, 0), (21, .invokevirtual 73, 76, 0, 1), (24, .getfield 110, 8, 4, 0), (27, .iload_n 1, 0, 0, 0), (28, .aaload, 0, 0, 0), (29, .astore 5, 0, 0, 0), (31, .iload_n 3, 0, 0, 0), (32, .ifCond .lt 12, 0, 0, 0), (35, .iload_n 3, 0, 0, 0), (36, .aload 5, 0, 0, 0), (38, .getfield 65, 2, 1, 0), (41, .if_icmp .lt 6, 0, 0, 0), (44, .bipush (-2), 0, 0, 0), (46, .ireturn, 0, 0, 0), (47, .aload 5, 0, 0, 0), (49, .getfield 127, 2, 0, 0), (52, .iload_n 3, 0, 0, 0), (53, .iaload, 0, 0, 0), (54, .ireturn, 0, 0, 0)]
def zc_90 : List zE := [(0, .aload_n 0, 0, 0, 0), (1, .getfield 26, 11, 2, 0), (4, .invokevirtual 131, 30, 0, 0), (7, .bipush 40, 0, 0, 0), (9, .if_icmp .lt 6, 0, 0, 0), (12, .bipush (-6), 0, 0, 0), (14, .ireturn, 0, 0, 0), (15, .aload_n 0, 0, 0, 0), (16, .getfield 26, 11, 2, 0), (19, .invokevirtual 132, 33, 0, 0), (22, .ireturn, 0, 0, 0)]
def zc_91 : List zE := [(0, .aload_n 0, 0, 0, 0), (1, .getfield 26, 11, 2, 0), (4, .iload_n 1, 0, 0, 0), (5, .invokevirtual 134, 31, 0, 1), (8, .ifCond .eq 14, 0, 0, 0), (11, .aload_n 0, 0, 0, 0), (12, .getfield 12, 11, 0, 0), (15, .iload_n 2, 0, 0, 0), (16, .invokevirtual 69, 75, 0, 1), (19, .ifCond .ne 6, 0, 0, 0), (22, .bipush (-2), 0, 0, 0), (24, .ireturn, 0, 0, 0), (25, .aload_n 0, 0, 0, 0), (26, .getfield 26, 11, 2, 0), (29, .iload_n 1, 0, 0, 0), (30, .invokevirtual 135, 32, 0, 1), (33, .astore_n 3, 0, 0, 0), (34, .aload_n 0, 0, 0, 0), (35, .getfield 12, 11, 0, 0), (38, .iload_n 2, 0, 0, 0), (39, .invokevirtual 73, 76, 0, 1), (42, .astore 4, 0, 0, 0), (44, .aload_n 3, 0, 0, 0), (45, .iload_n 2, 0, 0, 0), (46, .invokevirtual 138, 1, 0, 1), (49, .ifCond .eq 6, 0, 0, 0), (52, .bipush (-4), 0, 0, 0), (54, .ireturn, 0, 0, 0), (55, .aload_n 0, 0, 0, 0), (56, .getfield 26, 11, 2, 0), (59, .iload_n 1, 0, 0, 0), (60, .aload 4, 0, 0, 0), (62, .invokevirtual 143, 37, 0, 2), (65, .ifCond .eq 6, 0, 0, 0), (68, .bipush (-5), 0, 0, 0), (70, .ireturn, 0, 0, 0), (71, .aload_n 3, 0, 0, 0), (72, .getfield 147, 0, 0, 0), (75, .invokevirtual 151, 187, 0, 0), (78, .bipush 6, 0, 0, 0), (80, .if_icmp .lt 6, 0, 0, 0), (83, .bipush (-6), 0, 0, 0), (85, .ireturn, 0, 0, 0), (86, .aload_n 3, 0, 0, 0), (87, .getfield 147, 0, 0, 0), (90, .aload 4, 0, 0, 0), (92, .invokevirtual 154, 192, 0, 1), (95, .pop, 0, 0, 0), (96, .aload_n 0, 0, 0, 0), (97, .getfield 26, 11, 2, 0), (100, .invokevirtual 157, 35, 0, 0), (103, .aload_n 3, 0, 0, 0), (104, .getfield 147, 0, 0, 0), (107, .invokevirtual 151, 187, 0, 0), (110, .ireturn, 0, 0, 0)]
def zc_92 : List zE := [(0, .aload_n 0, 0, 0, 0), (1, .getfield 26, 11, 2, 0), (4, .iload_n 1, 0, 0, 0), (5, .invokevirtual 134, 31, 0, 1), (8, .ifCond .eq 14, 0, 0, 0), (11, .aload_n 0, 0, 0, 0), (12, .getfield 12, 11, 0, 0), (15, .iload_n 2, 0, 0, 0), (16, .invokevirtual 69, 75, 0, 1), (19, .ifCond .ne 6, 0, 0, 0), (22, .bipush (-2), 0, 0, 0), (24, .ireturn, 0, 0, 0), (25, .aload_n 0, 0, 0, 0), (26, .getfield 26, 11, 2, 0), (29, .iload_n 1, 0, 0, 0), (30, .invokevirtual 135, 32, 0, 1), (33, .astore_n 3, 0, 0, 0), (34, .aload_n 0, 0, 0, 0), (35, .getfield 12, 11, 0, 0), (38, .iload_n 2, 0, 0, 0), (39, .invokevirtual 73, 76, 0, 1), (42, .astore 4, 0, 0, 0), (44, .aload 4, 0, 0, 0), (46, .getfield 77, 8, 3, 0), (49, .ifCond .eq 6, 0, 0, 0), (52, .bipush (-3), 0, 0, 0), (54, .ireturn, 0, 0, 0), (55, .aload 4, 0, 0, 0), (57, .getfield 100, 8, 6, 0), (60, .iconst (-1), 0, 0, 0), (61, .if_icmp .eq 6, 0, 0, 0), (64, .bipush (-4), 0, 0, 0), (66, .ireturn, 0, 0, 0), (67, .aload_n 0, 0, 0, 0), (68, .getfield 26, 11, 2, 0), (71, .iload_n 1, 0, 0, 0), (72, .aload 4, 0, 0, 0), (74, .invokevirtual 160, 38, 0, 2), (77, .ifCond .eq 6, 0, 0, 0), (80, .bipush (-5), 0, 0, 0), (82, .ireturn, 0, 0, 0), (83, .aload_n 3, 0, 0, 0), (84, .getfield 163, 0, 1, 0), (87, .invokevirtual 151, 187, 0, 0), (90, .iconst 3, 0, 0, 0), (91, .if_icmp .lt 6, 0, 0, 0), (94, .bipush (-6), 0, 0, 0), (96, .ireturn, 0, 0, 0), (97, .aload_n 3, 0, 0, 0), (98, .getfield 163, 0, 1, 0), (101, .aload 4, 0, 0, 0), (103, .invokevirtual 154, 192, 0, 1), (106, .pop, 0, 0, 0), (107, .aload 4, 0, 0, 0), (109, .iload_n 1, 0, 0, 0), (110, .invokevirtual 166, 61, 0, 1), (113, .aload_n 0, 0, 0, 0), (114, .getfield 26, 11, 2, 0), (117, .invokevirtual 157, 35, 0, 0), (120, .aload_n 3, 0, 0, 0), (121, .getfield 163, 0, 1, 0), (124, .invokevirtual 151, 187, 0, 0), (127, .ireturn, 0, 0, 0)]
def zc_93 : List zE := [(0, .aload_n 0, 0, 0, 0), (1, .getfield 26, 11, 2, 0), (4, .iload_n 1, 0, 0, 0), (5, .invokevirtual 134, 31, 0, 1), (8, .ifCond .eq 24, 0, 0, 0), (11, .iload_n 2, 0, 0, 0), (12, .ifCond .lt 20, 0, 0, 0), (15, .iload_n 2, 0, 0, 0), (16, .bipush 13, 0, 0, 0), (18, .if_icmp .gt 14, 0, 0, 0), (21, .iload_n 3, 0, 0, 0), (22, .ifCond .lt 10, 0, 0, 0), (25, .iload_n 3, 0, 0, 0), (26, .sipush 255, 0, 0, 0), (29, .if_icmp .le 6, 0, 0, 0), (32, .bipush (-2), 0, 0, 0), (34, .ireturn, 0, 0, 0), (35, .aload_n 0, 0, 0, 0), (36, .getfield 26, 11, 2, 0), (39, .iload_n 1, 0, 0, 0), (40, .invokevirtual 135, 32, 0, 1), (43, .iload_n 2, 0, 0, 0), (44, .iload_n 3, 0, 0, 0), (45, .invokevirtual 170, 2, 0, 2), (48, .ireturn, 0, 0, 0)]
def zc_94 : List zE := [(0, .aload_n 0, 0, 0, 0), (1, .getfield 26, 11, 2, 0), (4, .iload_n 1, 0, 0, 0), (5, .invokevirtual 134, 31, 0, 1), (8, .ifCond .ne 6, 0, 0, 0), (11, .bipush (-2), 0, 0, 0), (13, .ireturn, 0, 0, 0), (14, .aload_n 0, 0, 0, 0), (15, .getfield 26, 11, 2, 0), (18, .iload_n 1, 0, 0, 0), (19, .invokevirtual 135, 32, 0, 1), (22, .invokevirtual 173, 3, 0, 0), (25, .istore_n 2, 0, 0, 0), (26, .aload_n 0, 0, 0, 0), (27, .getfield 26, 11, 2, 0), (30, .invokevirtual 157, 35, 0, 0), (33, .iload_n 2, 0, 0, 0), (34, .ireturn, 0, 0, 0)]
def zc_95 : List zE := [(0, .aload_n 0, 0, 0, 0), (1, .getfield 26, 11, 2, 0), (4, .iload_n 1, 0, 0, 0), (5, .invokevirtual 134, 31, 0, 1), (8, .ifCond .ne 6, 0, 0, 0), (11, .bipush (-2), 0, 0, 0), (13, .ireturn, 0, 0, 0), (14, .aload_n 0, 0, 0, 0), (15, .getfield 26, 11, 2, 0), (18, .iload_n 1, 0, 0, 0), (19, .invokevirtual 135, 32, 0, 1), (22, .astore_n 3, 0, 0, 0), (23, .iload_n 2, 0, 0, 0), (24, .tableswitch 61 0 3 #[32, 40, 48, 53], 0, 0, 0), (56, .aload_n 3, 0, 0, 0), (57, .getfield 147, 0, 0, 0), (60, .invokevirtual 151, 187, 0, 0), (63, .ireturn, 0, 0, 0), (64, .aload_n 3, 0, 0, 0), (65, .getfield 163, 0, 1, 0), (68, .invokevirtual 151, 187, 0, 0), (71, .ireturn, 0, 0, 0), (72, .aload_n 3, 0, 0, 0), (73, .getfield 176, 0, 5, 0), (76, .ireturn, 0, 0, 0), (77, .aload_n 3, 0, 0, 0), (78, .getfield 179, 0, 6, 0), (81, .invokestatic 183, 181, 1, 1), (84, .ireturn, 0, 0, 0), (85, .bipush (-2), 0, 0, 0), (87, .ireturn, 0, 0, 0)]
def zc_96 : List zE := [(0, .aload_n 0, 0, 0, 0), (1, .getfield 26, 11, 2, 0), (4, .iload_n 1, 0, 0, 0), (5, .invokevirtual 134, 31, 0, 1), (8, .ifCond .eq 14, 0, 0, 0), (11, .aload_n 0, 0, 0, 0), (12, .getfield 26, 11, 2, 0), (15, .iload_n 2, 0, 0, 0), (16, .invokevirtual 134, 31, 0, 1), (19, .ifCond .ne 6, 0, 0, 0), (22, .bipush (-2), 0, 0, 0), (24, .ireturn, 0, 0, 0), (25, .aload_n 0, 0, 0, 0), (26, .getfield 26, 11, 2, 0), (29, .iload_n 1, 0, 0, 0), (30, .invokevirtual 135, 32, 0, 1), (33, .getfield 179, 0, 6, 0), (36, .iload_n 2, 0, 0, 0), (37, .invokestatic 189, 108, 1, 1), (40, .land, 0, 0, 0), (41, .lconst 0, 0, 0, 0), (42, .lcmp, 0, 0, 0), (43, .ifCond .eq 7, 0, 0, 0), (46, .iconst 1, 0, 0, 0), (47, .goto 4, 0, 0, 0), (50, .iconst 0, 0, 0, 0), (51, .ireturn, 0, 0, 0)]
def zc_97 : List zE := [(0, .iload_n 1, 0, 0, 0), (1, .invokestatic 118, 107, 1, 1), (4, .ifCond .eq 19, 0, 0, 0), (7, .iload_n 2, 0, 0, 0), (8, .iconst (-1), 0, 0, 0), (9, .if_icmp .eq 17, 0, 0, 0), (12, .aload_n 0, 0, 0, 0), (13, .getfield 12, 11, 0, 0), (16, .iload_n 2, 0, 0, 0), (17, .invokevirtual 69, 75, 0, 1), (20, .ifCond .ne 6, 0, 0, 0), (23, .bipush (-2), 0, 0, 0), (25, .ireturn, 0, 0, 0), (26, .iload_n 2, 0, 0, 0), (27, .iconst (-1), 0, 0, 0), (28, .if_icmp .ne 13, 0, 0, 0), (31, .aload_n 0, 0, 0, 0), (32, .getfield 26, 11, 2, 0), (35, .invokevirtual 193, 34, 0, 0), (38, .goto 21, 0, 0, 0), (41, .aload_n 0, 0, 0, 0), (42, .getfield 26, 11, 2, 0), (45, .aload_n 0, 0, 0, 0), (46, .getfield 12, 11, 0, 0), (49, .iload_n 2, 0, 0, 0), (50, .invokevirtual 73, 76, 0, 1), (53, .invokevirtual 197, 62, 0, 0), (56, .invokevirtual 200, 36, 0, 1), (59, .lstore_n 3, 0, 0, 0), (60, .aload_n 0, 0, 0, 0), (61, .getfield 47, 11, 5, 0), (64, .getfield 204, 6, 2, 0), (67, .istore 5, 0, 0, 0), (69, .aload_n 0, 0, 0, 0), (70, .getfield 47, 11, 5, 0), (73, .invokevirtual 207, 53, 0, 0), (76, .iconst 0, 0, 0, 0), (77, .istore 6, 0, 0, 0), (79, .iload 6, 0, 0, 0), (81, .bipush 40, 0, 0, 0), (83, .if_icmp .ge 53, 0, 0, 0), (86, .lload_n 3, 0, 0, 0), (87, .lconst 0, 0, 0, 0), (88, .lcmp, 0, 0, 0), (89, .ifCond .eq 47, 0, 0, 0), (92, .aload_n 0, 0, 0, 0), (93, .getfield 26, 11, 2, 0), (96, .lload_n 3, 0, 0, 0), (97, .invokevirtual 210, 39, 0, 1), (100, .istore 7, 0, 0, 0), (102, .iload 7, 0, 0, 0), (104, .iconst (-1), 0, 0, 0), (105, .if_icmp .ne 6, 0, 0, 0), (108, .goto 28, 0, 0, 0), (111, .aload_n 0, 0, 0, 0), (112, .iload_n 1, 0, 0, 0), (113, .iload 7, 0, 0, 0), (115, .invokevirtual 213, 111, 0, 2), (118, .lload_n 3, 0, 0, 0), (119, .iload 7, 0, 0, 0), (121, .invokestatic 189, 108, 1, 1), (124, .ldc2_w 217, 0, 0, -1), (127, .lxor, 0, 0, 0), (128, .land, 0, 0, 0), (129, .lstore_n 3, 0, 0, 0), (130, .iinc 6 1, 0, 0, 0), (133, .goto (-54), 0, 0, 0), (136, .aload_n 0, 0, 0, 0), (137, .getfield 47, 11, 5, 0), (140, .getfield 204, 6, 2, 0), (143, .iload 5, 0, 0, 0), (145, .isub, 0, 0, 0), (146, .ireturn, 0, 0, 0)]
def zc_98 : List zE := [(0, .iload_n 1, 0, 0, 0), (1, .ifCond .lt 23, 0, 0, 0), (4, .iload_n 1, 0, 0, 0), (5, .aload_n 0, 0, 0, 0), (6, .getfield 47, 11, 5, 0), (9, .getfield 219, 6, 1, 0), (12, .if_icmp .ge 12, 0, 0, 0), (15, .iload_n 2, 0, 0, 0), (16, .ifCond .lt 8, 0, 0, 0), (19, .iload_n 2, 0, 0, 0), (20, .iconst 4, 0, 0, 0), (21, .if_icmp .lt 6, 0, 0, 0), (24, .bipush (-2), 0, 0, 0), (26, .ireturn, 0, 0, 0), (27, .aload_n 0, 0, 0, 0), (28, .getfield 47, 11, 5, 0), (31, .getfield 220, 6, 0, 0), (34, .iload_n 2, 0, 0, 0), (35, .aaload, 0, 0, 0), (36, .iload_n 1, 0, 0, 0), (37, .iaload, 0, 0, 0), (38, .ireturn, 0, 0, 0)]
def zc_99 : List zE := [(0, .iload_n 1, 0, 0, 0), (1, .invokestatic 118, 107, 1, 1), (4, .ifCond .eq 14, 0, 0, 0), (7, .aload_n 0, 0, 0, 0), (8, .getfield 26, 11, 2, 0), (11, .iload_n 2, 0, 0, 0), (12, .invokevirtual 134, 31, 0, 1), (15, .ifCond .ne 6, 0, 0, 0), (18, .bipush (-2), 0, 0, 0), (20, .ireturn, 0, 0, 0), (21, .aload_n 0, 0, 0, 0), (22, .getfield 54, 11, 6, 0), (25, .aload_n 0, 0, 0, 0), (26, .getfield 26, 11, 2, 0), (29, .iload_n 2, 0, 0, 0), (30, .invokevirtual 135, 32, 0, 1), (33, .iload_n 1, 0, 0, 0), (34, .invokevirtual 224, 41, 0, 2), (37, .aload_n 0, 0, 0, 0), (38, .getfield 54, 11, 6, 0), (41, .aload_n 0, 0, 0, 0), (42, .getfield 26, 11, 2, 0), (45, .iload_n 2, 0, 0, 0), (46, .invokevirtual 135, 32, 0, 1), (49, .getfield 228, 0, 4, 0), (52, .iload_n 1, 0, 0, 0), (53, .aaload, 0, 0, 0), (54, .invokevirtual 232, 50, 0, 1), (57, .ireturn, 0, 0, 0)]
def zc_100 : List zE := [(0, .iload_n 1, 0, 0, 0), (1, .invokestatic 118, 107, 1, 1), (4, .ifCond .eq 14, 0, 0, 0), (7, .aload_n 0, 0, 0, 0), (8, .getfield 26, 11, 2, 0), (11, .iload_n 2, 0, 0, 0), (12, .invokevirtual 134, 31, 0, 1), (15, .ifCond .ne 5, 0, 0, 0), (18, .lconst 0, 0, 0, 0), (19, .lreturn, 0, 0, 0), (20, .aload_n 0, 0, 0, 0), (21, .getfield 54, 11, 6, 0), (24, .aload_n 0, 0, 0, 0), (25, .getfield 26, 11, 2, 0), (28, .iload_n 2, 0, 0, 0), (29, .invokevirtual 135, 32, 0, 1), (32, .iload_n 1, 0, 0, 0), (33, .invokevirtual 224, 41, 0, 2), (36, .aload_n 0, 0, 0, 0), (37, .getfield 54, 11, 6, 0), (40, .invokevirtual 236, 47, 0, 0), (43, .lreturn, 0, 0, 0)]
def zc_101 : List zE := [(0, .iload_n 1, 0, 0, 0), (1, .invokestatic 118, 107, 1, 1), (4, .ifCond .ne 6, 0, 0, 0), (7, .bipush (-2), 0, 0, 0), (9, .ireturn, 0, 0, 0), (10, .aload_n 0, 0, 0, 0), (11, .getfield 12, 11, 0, 0), (14, .iload_n 1, 0, 0, 0), (15, .iconst 2, 0, 0, 0), (16, .invokevirtual 121, 79, 0, 2), (19, .pop, 0, 0, 0), (20, .aload_n 0, 0, 0, 0), (21, .getfield 26, 11, 2, 0), (24, .invokevirtual 193, 34, 0, 0), (27, .lstore_n 2, 0, 0, 0), (28, .iconst 0, 0, 0, 0), (29, .istore 4, 0, 0, 0), (31, .iload 4, 0, 0, 0), (33, .bipush 40, 0, 0, 0), (35, .if_icmp .ge 84, 0, 0, 0), (38, .lload_n 2, 0, 0, 0), (39, .lconst 0, 0, 0, 0), (40, .lcmp, 0, 0, 0), (41, .ifCond .eq 78, 0, 0, 0), (44, .aload_n 0, 0, 0, 0), (45, .getfield 26, 11, 2, 0), (48, .lload_n 2, 0, 0, 0), (49, .invokevirtual 210, 39, 0, 1), (52, .istore 5, 0, 0, 0), (54, .iload 5, 0, 0, 0), (56, .iconst (-1), 0, 0, 0), (57, .if_icmp .ne 6, 0, 0, 0), (60, .goto 59, 0, 0, 0), (63, .aload_n 0, 0, 0, 0), (64, .getfield 40, 11, 4, 0), (67, .aload_n 0, 0, 0, 0), (68, .getfield 26, 11, 2, 0), (71, .iload 5, 0, 0, 0), (73, .invokevirtual 135, 32, 0, 1), (76, .iconst 2, 0, 0, 0), (77, .aload_n 0, 0, 0, 0), (78, .getfield 61, 11, 7, 0), (81, .invokevirtual 239, 65, 0, 3), (84, .aload_n 0, 0, 0, 0), (85, .getfield 26, 11, 2, 0), (88, .iload 5, 0, 0, 0), (90, .invokevirtual 135, 32, 0, 1), (93, .aload_n 0, 0, 0, 0), (94, .getfield 61, 11, 7, 0), (97, .iconst 2, 0, 0, 0), (98, .invokevirtual 243, 4, 0, 2), (101, .lload_n 2, 0, 0, 0), (102, .iload 5, 0, 0, 0), (104, .invokestatic 189, 108, 1, 1), (107, .ldc2_w 217, 0, 0, -1), (110, .lxor, 0, 0, 0), (111, .land, 0, 0, 0), (112, .lstore_n 2, 0, 0, 0), (113, .iinc 4 1, 0, 0, 0), (116, .goto (-85), 0, 0, 0), (119, .aload_n 0, 0, 0, 0), (120, .getfield 12, 11, 0, 0), (123, .iload_n 1, 0, 0, 0), (124, .iconst 2, 0, 0, 0), (125, .invokevirtual 247, 80, 0, 2), (128, .ifCond .eq 7, 0, 0, 0), (131, .iconst 1, 0, 0, 0), (132, .goto 4, 0, 0, 0), (135, .iconst 0, 0, 0, 0), (136, .ireturn, 0, 0, 0)]
def zc_102 : List zE := [(0, .iload_n 1, 0, 0, 0), (1, .ifCond .lt 10, 0, 0, 0), (4, .iload_n 1, 0, 0, 0), (5, .sipush 4000, 0, 0, 0), (8, .if_icmp .le 6, 0, 0, 0), (11, .bipush (-2), 0, 0, 0), (13, .ireturn, 0, 0, 0), (14, .aload_n 0, 0, 0, 0), (15, .getfield 33, 11, 3, 0), (18, .iload_n 1, 0, 0, 0), (19, .putfield 250, 1, 2, 0), (22, .aload_n 0, 0, 0, 0), (23, .getfield 33, 11, 3, 0), (26, .invokevirtual 253, 11, 0, 0), (29, .ireturn, 0, 0, 0)]
def zc_103 : List zE := [(0, .iload_n 1, 0, 0, 0), (1, .ifCond .lt 17, 0, 0, 0), (4, .iload_n 1, 0, 0, 0), (5, .aload_n 0, 0, 0, 0), (6, .getfield 33, 11, 3, 0), (9, .getfield 256, 1, 0, 0), (12, .invokevirtual 151, 187, 0, 0), (15, .if_icmp .lt 7, 0, 0, 0), (18, .ldc2_w 259, 0, 0, -9223372036854775808), (21, .lreturn, 0, 0, 0), (22, .aload_n 0, 0, 0, 0), (23, .getfield 33, 11, 3, 0), (26, .getfield 256, 1, 0, 0), (29, .iload_n 1, 0, 0, 0), (30, .invokevirtual 261, 190, 0, 1), (33, .checkcast 265, 3, 0, 0), (36, .astore_n 3, 0, 0, 0), (37, .iload_n 2, 0, 0, 0), (38, .tableswitch 72 0 4 #[34, 39, 48, 57, 63], 0, 0, 0), (72, .aload_n 3, 0, 0, 0), (73, .getfield 267, 3, 2, 0), (76, .lreturn, 0, 0, 0), (77, .aload_n 3, 0, 0, 0), (78, .getfield 269, 3, 1, 0), (81, .invokevirtual 272, 58, 0, 0), (84, .i2l, 0, 0, 0), (85, .lreturn, 0, 0, 0), (86, .aload_n 3, 0, 0, 0), (87, .getfield 269, 3, 1, 0), (90, .getfield 273, 7, 2, 0), (93, .i2l, 0, 0, 0), (94, .lreturn, 0, 0, 0), (95, .aload_n 3, 0, 0, 0), (96, .getfield 276, 3, 3, 0), (99, .i2l, 0, 0, 0), (100, .lreturn, 0, 0, 0), (101, .aload_n 3, 0, 0, 0), (102, .getfield 269, 3, 1, 0), (105, .getfield 279, 7, 1, 0), (108, .i2l, 0, 0, 0), (109, .lreturn, 0, 0, 0), (110, .ldc2_w 259, 0, 0, -9223372036854775808), (113, .lreturn, 0, 0, 0)]
def zc_104 : List zE := [(0, .aload_n 0, 0, 0, 0), (1, .getfield 33, 11, 3, 0), (4, .invokevirtual 281, 12, 0, 0), (7, .ireturn, 0, 0, 0)]
def zc_105 : List zE := [(0, .iload_n 1, 0, 0, 0), (1, .tableswitch 150 0 10 #[59, 67, 75, 83, 94, 102, 110, 118, 126, 134, 142], 0, 0, 0), (60, .aload_n 0, 0, 0, 0), (61, .getfield 12, 11, 0, 0), (64, .invokevirtual 87, 74, 0, 0), (67, .ireturn, 0, 0, 0), (68, .aload_n 0, 0, 0, 0), (69, .getfield 26, 11, 2, 0), (72, .invokevirtual 131, 30, 0, 0), (75, .ireturn, 0, 0, 0), (76, .aload_n 0, 0, 0, 0), (77, .getfield 19, 11, 1, 0), (80, .getfield 65, 2, 1, 0), (83, .ireturn, 0, 0, 0), (84, .aload_n 0, 0, 0, 0), (85, .getfield 33, 11, 3, 0), (88, .getfield 256, 1, 0, 0), (91, .invokevirtual 151, 187, 0, 0), (94, .ireturn, 0, 0, 0), (95, .aload_n 0, 0, 0, 0), (96, .getfield 33, 11, 3, 0), (99, .getfield 284, 1, 3, 0), (102, .ireturn, 0, 0, 0), (103, .aload_n 0, 0, 0, 0), (104, .getfield 33, 11, 3, 0), (107, .getfield 250, 1, 2, 0), (110, .ireturn, 0, 0, 0), (111, .aload_n 0, 0, 0, 0), (112, .getfield 47, 11, 5, 0), (115, .getfield 219, 6, 1, 0), (118, .ireturn, 0, 0, 0), (119, .aload_n 0, 0, 0, 0), (120, .getfield 47, 11, 5, 0), (123, .getfield 204, 6, 2, 0), (126, .ireturn, 0, 0, 0), (127, .aload_n 0, 0, 0, 0), (128, .getfield 47, 11, 5, 0), (131, .getfield 287, 6, 3, 0), (134, .ireturn, 0, 0, 0), (135, .aload_n 0, 0, 0, 0), (136, .getfield 33, 11, 3, 0), (139, .getfield 288, 1, 4, 0), (142, .ireturn, 0, 0, 0), (143, .aload_n 0, 0, 0, 0), (144, .getfield 47, 11, 5, 0), (147, .getfield 291, 6, 4, 0), (150, .ireturn, 0, 0, 0), (151, .bipush (-2), 0, 0, 0), (153, .ireturn, 0, 0, 0)]
def zc_106 : List zE := [(0, .aload_n 0, 0, 0, 0), (1, .getfield 12, 11, 0, 0), (4, .invokevirtual 294, 73, 0, 0), (7, .aload_n 0, 0, 0, 0), (8, .getfield 19, 11, 1, 0), (11, .iconst 0, 0, 0, 0), (12, .putfield 65, 2, 1, 0), (15, .aload_n 0, 0, 0, 0), (16, .getfield 26, 11, 2, 0), (19, .getfield 297, 4, 0, 0), (22, .invokevirtual 300, 196, 0, 0), (25, .aload_n 0, 0, 0, 0), (26, .getfield 33, 11, 3, 0), (29, .invokevirtual 303, 6, 0, 0), (32, .aload_n 0, 0, 0, 0), (33, .getfield 47, 11, 5, 0), (36, .invokevirtual 304, 52, 0, 0), (39, .iconst 1, 0, 0, 0), (40, .ireturn, 0, 0, 0)]
def zc_107 : List zE := [(0, .iload_n 0, 0, 0, 0), (1, .ifCond .lt 12, 0, 0, 0), (4, .iload_n 0, 0, 0, 0), (5, .iconst 2, 0, 0, 0), (6, .if_icmp .ge 7, 0, 0, 0), (9, .iconst 1, 0, 0, 0), (10, .goto 4, 0, 0, 0), (13, .iconst 0, 0, 0, 0), (14, .ireturn, 0, 0, 0)]
def zc_108 : List zE := [(0, .iload_n 0, 0, 0, 0), (1, .ifCond .lt 9, 0, 0, 0), (4, .iload_n 0, 0, 0, 0), (5, .bipush 40, 0, 0, 0), (7, .if_icmp .lt 7, 0, 0, 0), (10, .lconst 0, 0, 0, 0), (11, .goto 6, 0, 0, 0), (14, .lconst 1, 0, 0, 0), (15, .iload_n 0, 0, 0, 0), (16, .lshl, 0, 0, 0), (17, .lreturn, 0, 0, 0)]
def zc_109 : List zE := [(0, .iload_n 1, 0, 0, 0), (1, .invokestatic 118, 107, 1, 1), (4, .ifCond .eq 14, 0, 0, 0), (7, .aload_n 0, 0, 0, 0), (8, .getfield 12, 11, 0, 0), (11, .iload_n 2, 0, 0, 0), (12, .invokevirtual 69, 75, 0, 1), (15, .ifCond .ne 6, 0, 0, 0), (18, .bipush (-2), 0, 0, 0), (20, .ireturn, 0, 0, 0), (21, .aload_n 0, 0, 0, 0), (22, .getfield 12, 11, 0, 0), (25, .iload_n 2, 0, 0, 0), (26, .invokevirtual 73, 76, 0, 1), (29, .getfield 77, 8, 3, 0), (32, .ifCond .eq 8, 0, 0, 0), (35, .bipush (-3), 0, 0, 0), (37, .goto 4, 0, 0, 0), (40, .iconst 0, 0, 0, 0), (41, .ireturn, 0, 0, 0)]
def zc_110 : List zE := [(0, .aload_n 0, 0, 0, 0), (1, .iload_n 1, 0, 0, 0), (2, .iload_n 2, 0, 0, 0), (3, .invokevirtual 124, 109, 0, 2), (6, .istore_n 3, 0, 0, 0), (7, .iload_n 3, 0, 0, 0), (8, .ifCond .eq 5, 0, 0, 0), (11, .iload_n 3, 0, 0, 0), (12, .ireturn, 0, 0, 0), (13, .aload_n 0, 0, 0, 0), (14, .getfield 12, 11, 0, 0), (17, .iload_n 2, 0, 0, 0), (18, .invokevirtual 73, 76, 0, 1), (21, .getfield 100, 8, 6, 0), (24, .iconst (-1), 0, 0, 0), (25, .if_icmp .eq 8, 0, 0, 0), (28, .bipush (-3), 0, 0, 0), (30, .goto 4, 0, 0, 0), (33, .iconst 0, 0, 0, 0), (34, .ireturn, 0, 0, 0)]
def zc_111 : List zE := [(0, .aload_n 0, 0, 0, 0), (1, .getfield 26, 11, 2, 0), (4, .iload_n 2, 0, 0, 0), (5, .invokevirtual 135, 32, 0, 1), (8, .astore_n 3, 0, 0, 0), (9, .aload_n 0, 0, 0, 0), (10, .getfield 54, 11, 6, 0), (13, .aload_n 3, 0, 0, 0), (14, .iload_n 1, 0, 0, 0), (15, .invokevirtual 224, 41, 0, 2), (18, .aload_n 0, 0, 0, 0), (19, .getfield 54, 11, 6, 0), (22, .aload_n 3, 0, 0, 0), (23, .getfield 228, 0, 4, 0), (26, .iload_n 1, 0, 0, 0), (27, .aaload, 0, 0, 0), (28, .invokevirtual 232, 50, 0, 1), (31, .istore 4, 0, 0, 0), (33, .aload_n 0, 0, 0, 0), (34, .getfield 33, 11, 3, 0), (37, .aload_n 0, 0, 0, 0), (38, .getfield 54, 11, 6, 0), (41, .invokevirtual 305, 7, 0, 1), (44, .istore 5, 0, 0, 0), (46, .iload 5, 0, 0, 0), (48, .iconst (-1), 0, 0, 0), (49, .if_icmp .ne 7, 0, 0, 0), (52, .iconst 1, 0, 0, 0), (53, .goto 4, 0, 0, 0), (56, .iconst 0, 0, 0, 0), (57, .istore 6, 0, 0, 0), (59, .iload 6, 0, 0, 0), (61, .ifCond .eq 17, 0, 0, 0), (64, .aload_n 0, 0, 0, 0), (65, .getfield 33, 11, 3, 0), (68, .aload_n 0, 0, 0, 0), (69, .getfield 54, 11, 6, 0), (72, .invokevirtual 308, 9, 0, 1), (75, .goto 12, 0, 0, 0), (78, .aload_n 0, 0, 0, 0), (79, .getfield 33, 11, 3, 0), (82, .iload 5, 0, 0, 0), (84, .invokevirtual 312, 8, 0, 1), (87, .astore 7, 0, 0, 0), (89, .iload 6, 0, 0, 0), (91, .ifCond .eq 17, 0, 0, 0), (94, .aload_n 0, 0, 0, 0), (95, .getfield 40, 11, 4, 0), (98, .aload_n 3, 0, 0, 0), (99, .iload_n 1, 0, 0, 0), (100, .aload 7, 0, 0, 0), (102, .getfield 269, 3, 1, 0), (105, .invokevirtual 239, 65, 0, 3), (108, .aload_n 3, 0, 0, 0), (109, .aload 7, 0, 0, 0), (111, .getfield 269, 3, 1, 0), (114, .iload_n 1, 0, 0, 0), (115, .invokevirtual 243, 4, 0, 2), (118, .aload_n 3, 0, 0, 0), (119, .getfield 228, 0, 4, 0), (122, .iload_n 1, 0, 0, 0), (123, .aaload, 0, 0, 0), (124, .aload_n 0, 0, 0, 0), (125, .getfield 54, 11, 6, 0), (128, .invokevirtual 316, 46, 0, 1), (131, .aload_n 0, 0, 0, 0), (132, .getfield 47, 11, 5, 0), (135, .iload_n 2, 0, 0, 0), (136, .iload 6, 0, 0, 0), (138, .aload 7, 0, 0, 0), (140, .getfield 269, 3, 1, 0), (143, .getfield 273, 7, 2, 0), (146, .iload 4, 0, 0, 0), (148, .invokevirtual 319, 54, 0, 4), (151, .iload 6, 0, 0, 0), (153, .ifCond .eq 12, 0, 0, 0), (156, .aload_n 0, 0, 0, 0), (157, .getfield 33, 11, 3, 0), (160, .aload 7, 0, 0, 0), (162, .invokevirtual 322, 10, 0, 1), (165, .return_, 0, 0, 0)]
def zc_112 : List zE := [(0, .aload_n 0, 0, 0, 0), (1, .invokespecial 1, 0, 5, 0), (4, .aload_n 0, 0, 0, 0), (5, .iconst 1, 0, 0, 0), (6, .putfield 7, 12, 0, 0), (9, .aload_n 0, 0, 0, 0), (10, .bipush 60, 0, 0, 0), (12, .newarray .int, 21, 0, 0), (14, .putfield 13, 12, 1, 0), (17, .aload_n 0, 0, 0, 0), (18, .bipush 60, 0, 0, 0), (20, .newarray .int, 22, 0, 0), (22, .putfield 17, 12, 2, 0), (25, .aload_n 0, 0, 0, 0), (26, .bipush 60, 0, 0, 0), (28, .newarray .boolean, 23, 0, 0), (30, .putfield 20, 12, 3, 0), (33, .aload_n 0, 0, 0, 0), (34, .bipush 60, 0, 0, 0), (36, .newarray .int, 24, 0, 0), (38, .putfield 24, 12, 4, 0), (41, .aload_n 0, 0, 0, 0), (42, .sipush 180, 0, 0, 0), (45, .newarray .int, 25, 0, 0), (47, .putfield 27, 12, 5, 0), (50, .aload_n 0, 0, 0, 0), (51, .sipush 11520, 0, 0, 0), (54, .newarray .int, 26, 0, 0), (56, .putfield 30, 12, 6, 0), (59, .aload_n 0, 0, 0, 0), (60, .bipush 64, 0, 0, 0), (62, .newarray .int, 27, 0, 0), (64, .putfield 33, 12, 7, 0), (67, .aload_n 0, 0, 0, 0), (68, .sipush 240, 0, 0, 0), (71, .newarray .int, 30, 0, 0), (73, .putfield 36, 12, 10, 0), (76, .aload_n 0, 0, 0, 0), (77, .bipush 40, 0, 0, 0), (79, .newarray .int, 31, 0, 0), (81, .putfield 39, 12, 11, 0), (84, .aload_n 0, 0, 0, 0), (85, .bipush 120, 0, 0, 0), (87, .newarray .int, 32, 0, 0), (89, .putfield 42, 12, 12, 0), (92, .aload_n 0, 0, 0, 0), (93, .bipush 40, 0, 0, 0), (95, .newarray .int, 33, 0, 0), (97, .putfield 45, 12, 13, 0), (100, .aload_n 0, 0, 0, 0), (101, .sipush 640, 0, 0, 0), (104, .newarray .int, 34, 0, 0), (106, .putfield 48, 12, 14, 0), (109, .aload_n 0, 0, 0, 0), (110, .sipush 640, 0, 0, 0), (113, .newarray .int, 35, 0, 0), (115, .putfield 51, 12, 15, 0), (118, .aload_n 0, 0, 0, 0), (119, .bipush 40, 0, 0, 0), (121, .newarray .int, 36, 0, 0), (123, .putfield 54, 12, 16, 0), (126, .aload_n 0, 0, 0, 0), (127, .bipush 80, 0, 0, 0), (129, .newarray .boolean, 37, 0, 0), (131, .putfield 57, 12, 17, 0), (134, .aload_n 0, 0, 0, 0), (135, .ldc 60, 0, 0, 34000), (137, .newarray .int, 38, 0, 0), (139, .putfield 61, 12, 18, 0), (142, .aload_n 0, 0, 0, 0), (143, .sipush 560, 0, 0, 0), (146, .newarray .int, 39, 0, 0), (148, .putfield 64, 12, 19, 0), (151, .aload_n 0, 0, 0, 0), (152, .sipush 1000, 0, 0, 0), (155, .putfield 67, 12, 20, 0), (158, .aload_n 0, 0, 0, 0), (159, .bipush 101, 0, 0, 0), (161, .newarray .int, 42, 0, 0), (163, .putfield 70, 12, 22, 0), (166, .aload_n 0, 0, 0, 0), (167, .bipush 101, 0, 0, 0), (169, .newarray .boolean, 43, 0, 0), (171, .putfield 73, 12, 23, 0), (174, .aload_n 0, 0, 0, 0), (175, .ldc 76, 0, 0, 42925), (177, .newarray .int, 44, 0, 0), (179, .putfield 77, 12, 24, 0), (182, .aload_n 0, 0, 0, 0), (183, .bipush 101, 0, 0, 0), (185, .newarray .int, 45, 0, 0), (187, .putfield 80, 12, 25, 0), (190, .aload_n 0, 0, 0, 0), (191, .bipush 101, 0, 0, 0), (193, .newarray .int, 46, 0, 0), (195, .putfield 83, 12, 26, 0), (198, .aload_n 0, 0, 0, 0), (199, .bipush 101, 0, 0, 0), (201, .newarray .int, 47, 0, 0), (203, .putfield 86, 12, 27, 0), (206, .aload_n 0, 0, 0, 0), (207, .bipush 101, 0, 0, 0), (209, .newarray .int, 48, 0, 0), (211, .putfield 89, 12, 28, 0), (214, .aload_n 0, 0, 0, 0), (215, .bipush 101, 0, 0, 0), (217, .newarray .int, 49, 0, 0), (219, .putfield 92, 12, 29, 0), (222, .aload_n 0, 0, 0, 0), (223, .sipush 303, 0, 0, 0), (226, .newarray .int, 50, 0, 0), (228, .putfield 95, 12, 30, 0), (231, .aload_n 0, 0, 0, 0), (232, .sipush 19392, 0, 0, 0), (235, .newarray .int, 51, 0, 0), (237, .putfield 98, 12, 31, 0), (240, .aload_n 0, 0, 0, 0), (241, .bipush 40, 0, 0, 0), (243, .newarray .int, 53, 0, 0), (245, .putfield 101, 12, 33, 0), (248, .aload_n 0, 0, 0, 0), (249, .bipush 40, 0, 0, 0), (251, .newarray .int, 54, 0, 0), (253, .putfield 104, 12, 34, 0), (256, .aload_n 0, 0, 0, 0), (257, .bipush 40, 0, 0, 0), (259, .newarray .int, 55, 0, 0), (261, .putfield 107, 12, 35, 0), (264, .aload_n 0, 0, 0, 0), (265, .bipush 40, 0, 0, 0), (267, .newarray .int, 56, 0, 0), (269, .putfield 110, 12, 36, 0), (272, .aload_n 0, 0, 0, 0), (273, .bipush 40, 0, 0, 0), (275, .newarray .boolean, 61, 0, 0), (277, .putfield 113, 12, 41, 0), (280, .aload_n 0, 0, 0, 0), (281, .sipush 425, 0, 0, 0), (284, .newarray .int, 62, 0, 0), (286, .putfield 116, 12, 42, 0), (289, .aload_n 0, 0, 0, 0), (290, .bipush 7, 0, 0, 0), (292, .newarray .int, 64, 0, 0), (294, .putfield 119, 12, 44, 0), (297, .aload_n 0, 0, 0, 0), (298, .bipush 26, 0, 0, 0), (300, .newarray .int, 65, 0, 0), (302, .putfield 122, 12, 45, 0), (305, .aload_n 0, 0, 0, 0), (306, .bipush 64, 0, 0, 0), (308, .newarray .int, 67, 0, 0), (310, .putfield 125, 12, 47, 0), (313, .aload_n 0, 0, 0, 0), (314, .iconst 3, 0, 0, 0), (315, .newarray .int, 70, 0, 0), (317, .putfield 128, 12, 50, 0), (320, .aload_n 0, 0, 0, 0), (321, .sipush 192, 0, 0, 0), (324, .newarray .int, 71, 0, 0), (326, .putfield 131, 12, 51, 0), (329, .aload_n 0, 0, 0, 0), (330, .bipush 40, 0, 0, 0), (332, .newarray .boolean, 72, 0, 0), (334, .putfield 134, 12, 52, 0), (337, .aload_n 0, 0, 0, 0), (338, .bipush 40, 0, 0, 0), (340, .newarray .boolean, 73, 0, 0), (342, .putfield 137, 12, 53, 0), (345, .aload_n 0, 0, 0, 0), (346, .getfield 20, 12, 3, 0), (349, .iconst 0, 0, 0, 0), (350, .iconst 1, 0, 0, 0), (351, .bastore, 0, 0, 0), (352, .aload_n 0, 0, 0, 0), (353, .getfield 13, 12, 1, 0), (356, .iconst 0, 0, 0, 0), (357, .iconst (-1), 0, 0, 0), (358, .iastore, 0, 0, 0), (359, .aload_n 0, 0, 0, 0), (360, .getfield 24, 12, 4, 0), (363, .iconst 0, 0, 0, 0), (364, .iconst (-1), 0, 0, 0), (365, .iastore, 0, 0, 0), (366, .return_, 0, 0, 0)]
def zc_113 : List zE := [(0, .iload_n 0, 0, 0, 0), (1, .iload_n 1, 0, 0, 0), (2, .if_icmp .lt 12, 0, 0, 0), (5, .iload_n 0, 0, 0, 0), (6, .iload_n 2, 0, 0, 0), (7, .if_icmp .gt 7, 0, 0, 0), (10, .iconst 1, 0, 0, 0), (11, .goto 4, 0, 0, 0), (14, .iconst 0, 0, 0, 0), (15, .ireturn, 0, 0, 0)]
def zc_114 : List zE := [(0, .iload_n 1, 0, 0, 0), (1, .iconst 0, 0, 0, 0), (2, .aload_n 0, 0, 0, 0), (3, .getfield 7, 12, 0, 0), (6, .iconst 1, 0, 0, 0), (7, .isub, 0, 0, 0), (8, .invokestatic 140, 113, 1, 3), (11, .ireturn, 0, 0, 0)]
def zc_115 : List zE := [(0, .iload_n 1, 0, 0, 0), (1, .iconst 0, 0, 0, 0), (2, .aload_n 0, 0, 0, 0), (3, .getfield 144, 12, 9, 0), (6, .iconst 1, 0, 0, 0), (7, .isub, 0, 0, 0), (8, .invokestatic 140, 113, 1, 3), (11, .ireturn, 0, 0, 0)]
def zc_116 : List zE := [(0, .aload_n 0, 0, 0, 0), (1, .iload_n 1, 0, 0, 0), (2, .invokevirtual 147, 114, 0, 1), (5, .ifCond .eq 13, 0, 0, 0), (8, .iload_n 2, 0, 0, 0), (9, .iconst 1, 0, 0, 0), (10, .bipush 26, 0, 0, 0), (12, .invokestatic 140, 113, 1, 3), (15, .ifCond .ne 6, 0, 0, 0), (18, .bipush (-2), 0, 0, 0), (20, .ireturn, 0, 0, 0), (21, .aload_n 0, 0, 0, 0), (22, .getfield 20, 12, 3, 0), (25, .iload_n 1, 0, 0, 0), (26, .baload, 0, 0, 0), (27, .ifCond .ne 6, 0, 0, 0), (30, .bipush (-3), 0, 0, 0), (32, .ireturn, 0, 0, 0), (33, .iconst 1, 0, 0, 0), (34, .istore 4, 0, 0, 0), (36, .iload 4, 0, 0, 0), (38, .aload_n 0, 0, 0, 0), (39, .getfield 7, 12, 0, 0), (42, .if_icmp .ge 34, 0, 0, 0), (45, .aload_n 0, 0, 0, 0), (46, .getfield 13, 12, 1, 0), (49, .iload 4, 0, 0, 0), (51, .iaload, 0, 0, 0), (52, .iload_n 1, 0, 0, 0), (53, .if_icmp .ne 17, 0, 0, 0), (56, .aload_n 0, 0, 0, 0), (57, .getfield 17, 12, 2, 0), (60, .iload 4, 0, 0, 0), (62, .iaload, 0, 0, 0), (63, .iload_n 2, 0, 0, 0), (64, .if_icmp .ne 6, 0, 0, 0), (67, .bipush (-4), 0, 0, 0), (69, .ireturn, 0, 0, 0), (70, .iinc 4 1, 0, 0, 0), (73, .goto (-37), 0, 0, 0), (76, .aload_n 0, 0, 0, 0), (77, .getfield 7, 12, 0, 0), (80, .bipush 60, 0, 0, 0), (82, .if_icmp .ne 6, 0, 0, 0), (85, .bipush (-6), 0, 0, 0), (87, .ireturn, 0, 0, 0), (88, .aload_n 0, 0, 0, 0), (89, .getfield 13, 12, 1, 0), (92, .aload_n 0, 0, 0, 0), (93, .getfield 7, 12, 0, 0), (96, .iload_n 1, 0, 0, 0), (97, .iastore, 0, 0, 0), (98, .aload_n 0, 0, 0, 0), (99, .getfield 17, 12, 2, 0), (102, .aload_n 0, 0, 0, 0), (103, .getfield 7, 12, 0, 0), (106, .iload_n 2, 0, 0, 0), (107, .iastore, 0, 0, 0), (108, .aload_n 0, 0, 0, 0), (109, .getfield 20, 12, 3, 0), (112, .aload_n 0, 0, 0, 0), (113, .getfield 7, 12, 0, 0), (116, .iload_n 3, 0, 0, 0), (117, .bastore, 0, 0, 0), (118, .aload_n 0, 0, 0, 0), (119, .getfield 24, 12, 4, 0), (122, .aload_n 0, 0, 0, 0), (123, .getfield 7, 12, 0, 0), (126, .iconst (-1), 0, 0, 0), (127, .iastore, 0, 0, 0), (128, .iconst 0, 0, 0, 0), (129, .istore 4, 0, 0, 0), (131, .iload 4, 0, 0, 0), (133, .iconst 3, 0, 0, 0), (134, .if_icmp .ge 25, 0, 0, 0), (137, .aload_n 0, 0, 0, 0), (138, .getfield 27, 12, 5, 0), (141, .bipush 60, 0, 0, 0), (143, .iload 4, 0, 0, 0), (145, .imul, 0, 0, 0), (146, .aload_n 0, 0, 0, 0), (147, .getfield 7, 12, 0, 0), (150, .iadd, 0, 0, 0), (151, .iconst (-1), 0, 0, 0), (152, .iastore, 0, 0, 0), (153, .iinc 4 1, 0, 0, 0), (156, .goto (-25), 0, 0, 0), (159, .aload_n 0, 0, 0, 0), (160, .dup, 0, 0, 0), (161, .getfield 7, 12, 0, 0), (164, .iconst 1, 0, 0, 0), (165, .iadd, 0, 0, 0), (166, .putfield 7, 12, 0, 0), (169, .aload_n 0, 0, 0, 0), (170, .getfield 7, 12, 0, 0), (173, .iconst 1, 0, 0, 0), (174, .isub, 0, 0, 0), (175, .ireturn, 0, 0, 0)]
def zc_117 : List zE := [(0, .aload_n 0, 0, 0, 0), (1, .iload_n 1, 0, 0, 0), (2, .invokevirtual 147, 114, 0, 1), (5, .ifCond .ne 6, 0, 0, 0), (8, .bipush (-2), 0, 0, 0), (10, .ireturn, 0, 0, 0), (11, .iload_n 2, 0, 0, 0), (12, .tableswitch 68 0 3 #[32, 39, 46, 61], 0, 0, 0), (44, .aload_n 0, 0, 0, 0), (45, .getfield 13, 12, 1, 0), (48, .iload_n 1, 0, 0, 0), (49, .iaload, 0, 0, 0), (50, .ireturn, 0, 0, 0), (51, .aload_n 0, 0, 0, 0), (52, .getfield 17, 12, 2, 0), (55, .iload_n 1, 0, 0, 0), (56, .iaload, 0, 0, 0), (57, .ireturn, 0, 0, 0), (58, .aload_n 0, 0, 0, 0), (59, .getfield 20, 12, 3, 0), (62, .iload_n 1, 0, 0, 0), (63, .baload, 0, 0, 0), (64, .ifCond .eq 7, 0, 0, 0), (67, .iconst 1, 0, 0, 0), (68, .goto 4, 0, 0, 0), (71, .iconst 0, 0, 0, 0), (72, .ireturn, 0, 0, 0), (73, .aload_n 0, 0, 0, 0), (74, .getfield 24, 12, 4, 0), (77, .iload_n 1, 0, 0, 0), (78, .iaload, 0, 0, 0), (79, .ireturn, 0, 0, 0), (80, .bipush (-2), 0, 0, 0), (82, .ireturn, 0, 0, 0)]
def zc_118 : List zE := [(0, .iload_n 3, 0, 0, 0), (1, .iconst 1, 0, 0, 0), (2, .bipush 8, 0, 0, 0), (4, .invokestatic 140, 113, 1, 3), (7, .ifCond .ne 6, 0, 0, 0), (10, .bipush (-2), 0, 0, 0), (12, .ireturn, 0, 0, 0), (13, .aload_n 0, 0, 0, 0), (14, .getfield 151, 12, 8, 0), (17, .iload_n 3, 0, 0, 0), (18, .iadd, 0, 0, 0), (19, .bipush 64, 0, 0, 0), (21, .if_icmp .le 6, 0, 0, 0), (24, .bipush (-6), 0, 0, 0), (26, .ireturn, 0, 0, 0), (27, .iload_n 3, 0, 0, 0), (28, .iconst 1, 0, 0, 0), (29, .isub, 0, 0, 0), (30, .istore 4, 0, 0, 0), (32, .iload 4, 0, 0, 0), (34, .ifCond .lt 40, 0, 0, 0), (37, .aload_n 0, 0, 0, 0), (38, .getfield 33, 12, 7, 0), (41, .aload_n 0, 0, 0, 0), (42, .getfield 151, 12, 8, 0), (45, .lload_n 1, 0, 0, 0), (46, .bipush 8, 0, 0, 0), (48, .iload 4, 0, 0, 0), (50, .imul, 0, 0, 0), (51, .lshr, 0, 0, 0), (52, .ldc2_w 154, 0, 0, 255), (55, .land, 0, 0, 0), (56, .l2i, 0, 0, 0), (57, .iastore, 0, 0, 0), (58, .aload_n 0, 0, 0, 0), (59, .dup, 0, 0, 0), (60, .getfield 151, 12, 8, 0), (63, .iconst 1, 0, 0, 0), (64, .iadd, 0, 0, 0), (65, .putfield 151, 12, 8, 0), (68, .iinc 4 (-1), 0, 0, 0), (71, .goto (-39), 0, 0, 0), (74, .aload_n 0, 0, 0, 0), (75, .getfield 151, 12, 8, 0), (78, .ireturn, 0, 0, 0)]
def zc_119 : List zE := [(0, .iload_n 1, 0, 0, 0), (1, .iconst 0, 0, 0, 0), (2, .iconst 1, 0, 0, 0), (3, .invokestatic 140, 113, 1, 3), (6, .ifCond .eq 11, 0, 0, 0), (9, .aload_n 0, 0, 0, 0), (10, .iload_n 2, 0, 0, 0), (11, .invokevirtual 147, 114, 0, 1), (14, .ifCond .ne 7, 0, 0, 0), (17, .iconst 1, 0, 0, 0), (18, .goto 4, 0, 0, 0), (21, .iconst 0, 0, 0, 0), (22, .ireturn, 0, 0, 0)]
def zc_120 : List zE := [(0, .aload_n 0, 0, 0, 0), (1, .getfield 20, 12, 3, 0), (4, .iload_n 1, 0, 0, 0), (5, .baload, 0, 0, 0), (6, .ifCond .ne 17, 0, 0, 0), (9, .aload_n 0, 0, 0, 0), (10, .getfield 24, 12, 4, 0), (13, .iload_n 1, 0, 0, 0), (14, .iaload, 0, 0, 0), (15, .iconst (-1), 0, 0, 0), (16, .if_icmp .ne 7, 0, 0, 0), (19, .iconst 1, 0, 0, 0), (20, .goto 4, 0, 0, 0), (23, .iconst 0, 0, 0, 0), (24, .ireturn, 0, 0, 0)]
def zc_121 : List zE := [(0, .aload_n 0, 0, 0, 0), (1, .iload_n 1, 0, 0, 0), (2, .iload_n 2, 0, 0, 0), (3, .invokevirtual 156, 119, 0, 2), (6, .ifCond .eq 6, 0, 0, 0), (9, .bipush (-2), 0, 0, 0), (11, .ireturn, 0, 0, 0), (12, .aload_n 0, 0, 0, 0), (13, .iload_n 2, 0, 0, 0), (14, .invokevirtual 160, 120, 0, 1), (17, .ifCond .ne 6, 0, 0, 0), (20, .bipush (-3), 0, 0, 0), (22, .ireturn, 0, 0, 0), (23, .bipush 60, 0, 0, 0), (25, .iload_n 1, 0, 0, 0), (26, .imul, 0, 0, 0), (27, .iload_n 2, 0, 0, 0), (28, .iadd, 0, 0, 0), (29, .istore_n 3, 0, 0, 0), (30, .iconst 0, 0, 0, 0), (31, .istore 4, 0, 0, 0), (33, .iload 4, 0, 0, 0), (35, .aload_n 0, 0, 0, 0), (36, .getfield 151, 12, 8, 0), (39, .if_icmp .ge 28, 0, 0, 0), (42, .aload_n 0, 0, 0, 0), (43, .getfield 30, 12, 6, 0), (46, .bipush 64, 0, 0, 0), (48, .iload_n 3, 0, 0, 0), (49, .imul, 0, 0, 0), (50, .iload 4, 0, 0, 0), (52, .iadd, 0, 0, 0), (53, .aload_n 0, 0, 0, 0), (54, .getfield 33, 12, 7, 0), (57, .iload 4, 0, 0, 0), (59, .iaload, 0, 0, 0), (60, .iastore, 0, 0, 0), (61, .iinc 4 1, 0, 0, 0), (64, .goto (-31), 0, 0, 0), (67, .aload_n 0, 0, 0, 0), (68, .getfield 27, 12, 5, 0), (71, .iload_n 3, 0, 0, 0), (72, .aload_n 0, 0, 0, 0), (73, .getfield 151, 12, 8, 0), (76, .iastore, 0, 0, 0), (77, .aload_n 0, 0, 0, 0), (78, .iconst 0, 0, 0, 0), (79, .putfield 151, 12, 8, 0), (82, .aload_n 0, 0, 0, 0), (83, .getfield 27, 12, 5, 0), (86, .iload_n 3, 0, 0, 0), (87, .iaload, 0, 0, 0), (88, .ireturn, 0, 0, 0)]
def zc_122 : List zE := [(0, .aload_n 0, 0, 0, 0), (1, .iload_n 1, 0, 0, 0), (2, .iload_n 2, 0, 0, 0), (3, .invokevirtual 156, 119, 0, 2), (6, .ifCond .eq 6, 0, 0, 0), (9, .bipush (-2), 0, 0, 0), (11, .ireturn, 0, 0, 0), (12, .aload_n 0, 0, 0, 0), (13, .iload_n 2, 0, 0, 0), (14, .invokevirtual 160, 120, 0, 1), (17, .ifCond .ne 6, 0, 0, 0), (20, .bipush (-3), 0, 0, 0), (22, .ireturn, 0, 0, 0), (23, .aload_n 0, 0, 0, 0), (24, .getfield 27, 12, 5, 0), (27, .bipush 60, 0, 0, 0), (29, .iload_n 1, 0, 0, 0), (30, .imul, 0, 0, 0), (31, .iload_n 2, 0, 0, 0), (32, .iadd, 0, 0, 0), (33, .iaload, 0, 0, 0), (34, .istore_n 3, 0, 0, 0), (35, .aload_n 0, 0, 0, 0), (36, .getfield 27, 12, 5, 0), (39, .bipush 60, 0, 0, 0), (41, .iload_n 1, 0, 0, 0), (42, .imul, 0, 0, 0), (43, .iload_n 2, 0, 0, 0), (44, .iadd, 0, 0, 0), (45, .iconst (-1), 0, 0, 0), (46, .iastore, 0, 0, 0), (47, .iload_n 3, 0, 0, 0), (48, .ireturn, 0, 0, 0)]
def zc_123 : List zE := [(0, .bipush 60, 0, 0, 0), (2, .iload_n 1, 0, 0, 0), (3, .imul, 0, 0, 0), (4, .iload_n 3, 0, 0, 0), (5, .iadd, 0, 0, 0), (6, .istore 4, 0, 0, 0), (8, .bipush 60, 0, 0, 0), (10, .iload_n 2, 0, 0, 0), (11, .imul, 0, 0, 0), (12, .iload_n 3, 0, 0, 0), (13, .iadd, 0, 0, 0), (14, .istore 5, 0, 0, 0), (16, .aload_n 0, 0, 0, 0), (17, .getfield 27, 12, 5, 0), (20, .iload 4, 0, 0, 0), (22, .iaload, 0, 0, 0), (23, .aload_n 0, 0, 0, 0), (24, .getfield 27, 12, 5, 0), (27, .iload 5, 0, 0, 0), (29, .iaload, 0, 0, 0), (30, .if_icmp .ne 7, 0, 0, 0), (33, .iconst 1, 0, 0, 0), (34, .goto 4, 0, 0, 0), (37, .iconst 0, 0, 0, 0), (38, .istore 6, 0, 0, 0), (40, .iconst 0, 0, 0, 0), (41, .istore 7, 0, 0, 0), (43, .iload 7, 0, 0, 0), (45, .aload_n 0, 0, 0, 0), (46, .getfield 27, 12, 5, 0), (49, .iload 4, 0, 0, 0), (51, .iaload, 0, 0, 0), (52, .if_icmp .ge 50, 0, 0, 0), (55, .iload 6, 0, 0, 0), (57, .ifCond .eq 45, 0, 0, 0), (60, .aload_n 0, 0, 0, 0), (61, .getfield 30, 12, 6, 0), (64, .bipush 64, 0, 0, 0), (66, .iload 4, 0, 0, 0), (68, .imul, 0, 0, 0), (69, .iload 7, 0, 0, 0), (71, .iadd, 0, 0, 0), (72, .iaload, 0, 0, 0), (73, .aload_n 0, 0, 0, 0), (74, .getfield 30, 12, 6, 0), (77, .bipush 64, 0, 0, 0), (79, .iload 5, 0, 0, 0), (81, .imul, 0, 0, 0), (82, .iload 7, 0, 0, 0), (84, .iadd, 0, 0, 0), (85, .iaload, 0, 0, 0), (86, .if_icmp .ne 7, 0, 0, 0), (89, .iconst 1, 0, 0, 0), (90, .goto 4, 0, 0, 0), (93, .iconst 0, 0, 0, 0), (94, .istore 6, 0, 0, 0), (96, .iinc 7 1, 0, 0, 0), (99, .goto (-56), 0, 0, 0), (102, .iload 6, 0, 0, 0), (104, .ireturn, 0, 0, 0)]
def zc_124 : List zE := [(0, .bipush 60, 0, 0, 0), (2, .iload_n 1, 0, 0, 0), (3, .imul, 0, 0, 0), (4, .iload_n 3, 0, 0, 0), (5, .iadd, 0, 0, 0), (6, .istore 4, 0, 0, 0), (8, .bipush 60, 0, 0, 0), (10, .iload_n 2, 0, 0, 0), (11, .imul, 0, 0, 0), (12, .iload_n 3, 0, 0, 0), (13, .iadd, 0, 0, 0), (14, .istore 5, 0, 0, 0), (16, .aload_n 0, 0, 0, 0), (17, .getfield 27, 12, 5, 0), (20, .iload 5, 0, 0, 0), (22, .aload_n 0, 0, 0, 0), (23, .getfield 27, 12, 5, 0), (26, .iload 4, 0, 0, 0), (28, .iaload, 0, 0, 0), (29, .iastore, 0, 0, 0), (30, .iconst 0, 0, 0, 0), (31, .istore 6, 0, 0, 0), (33, .iload 6, 0, 0, 0), (35, .aload_n 0, 0, 0, 0), (36, .getfield 27, 12, 5, 0), (39, .iload 4, 0, 0, 0), (41, .iaload, 0, 0, 0), (42, .if_icmp .ge 35, 0, 0, 0), (45, .aload_n 0, 0, 0, 0), (46, .getfield 30, 12, 6, 0), (49, .bipush 64, 0, 0, 0), (51, .iload 5, 0, 0, 0), (53, .imul, 0, 0, 0), (54, .iload 6, 0, 0, 0), (56, .iadd, 0, 0, 0), (57, .aload_n 0, 0, 0, 0), (58, .getfield 30, 12, 6, 0), (61, .bipush 64, 0, 0, 0), (63, .iload 4, 0, 0, 0), (65, .imul, 0, 0, 0), (66, .iload 6, 0, 0, 0), (68, .iadd, 0, 0, 0), (69, .iaload, 0, 0, 0), (70, .iastore, 0, 0, 0), (71, .iinc 6 1, 0, 0, 0), (74, .goto (-41), 0, 0, 0), (77, .return_, 0, 0, 0)]
def zc_125 : List zE := [(0, .iload_n 1, 0, 0, 0), (1, .iconst 0, 0, 0, 0), (2, .iconst 1, 0, 0, 0), (3, .invokestatic 140, 113, 1, 3), (6, .ifCond .ne 6, 0, 0, 0), (9, .bipush (-2), 0, 0, 0), (11, .ireturn, 0, 0, 0), (12, .iconst 0, 0, 0, 0), (13, .istore_n 2, 0, 0, 0), (14, .iconst 1, 0, 0, 0), (15, .istore_n 3, 0, 0, 0), (16, .iload_n 3, 0, 0, 0), (17, .aload_n 0, 0, 0, 0), (18, .getfield 7, 12, 0, 0), (21, .if_icmp .ge 41, 0, 0, 0), (24, .aload_n 0, 0, 0, 0), (25, .iload_n 3, 0, 0, 0), (26, .invokevirtual 160, 120, 0, 1), (29, .ifCond .eq 27, 0, 0, 0), (32, .aload_n 0, 0, 0, 0), (33, .iload_n 1, 0, 0, 0), (34, .iconst 1, 0, 0, 0), (35, .iload_n 1, 0, 0, 0), (36, .isub, 0, 0, 0), (37, .iload_n 3, 0, 0, 0), (38, .invokevirtual 163, 123, 0, 3), (41, .ifCond .ne 15, 0, 0, 0), (44, .aload_n 0, 0, 0, 0), (45, .iconst 1, 0, 0, 0), (46, .iload_n 1, 0, 0, 0), (47, .isub, 0, 0, 0), (48, .iload_n 1, 0, 0, 0), (49, .iload_n 3, 0, 0, 0), (50, .invokevirtual 166, 124, 0, 3), (53, .iinc 2 1, 0, 0, 0), (56, .iinc 3 1, 0, 0, 0), (59, .goto (-43), 0, 0, 0), (62, .iload_n 2, 0, 0, 0), (63, .ireturn, 0, 0, 0)]
def zc_126 : List zE := [(0, .aload_n 0, 0, 0, 0), (1, .iload_n 1, 0, 0, 0), (2, .iload_n 2, 0, 0, 0), (3, .invokevirtual 156, 119, 0, 2), (6, .ifCond .eq 8, 0, 0, 0), (9, .bipush (-2), 0, 0, 0), (11, .goto 28, 0, 0, 0), (14, .aload_n 0, 0, 0, 0), (15, .getfield 20, 12, 3, 0), (18, .iload_n 2, 0, 0, 0), (19, .baload, 0, 0, 0), (20, .ifCond .eq 8, 0, 0, 0), (23, .bipush (-3), 0, 0, 0), (25, .goto 14, 0, 0, 0), (28, .aload_n 0, 0, 0, 0), (29, .getfield 27, 12, 5, 0), (32, .bipush 60, 0, 0, 0), (34, .iload_n 1, 0, 0, 0), (35, .imul, 0, 0, 0), (36, .iload_n 2, 0, 0, 0), (37, .iadd, 0, 0, 0), (38, .iaload, 0, 0, 0), (39, .ireturn, 0, 0, 0)]
def zc_127 : List zE := [(0, .aload_n 0, 0, 0, 0), (1, .iload_n 1, 0, 0, 0), (2, .iload_n 2, 0, 0, 0), (3, .invokevirtual 156, 119, 0, 2), (6, .ifCond .eq 6, 0, 0, 0), (9, .bipush (-2), 0, 0, 0), (11, .ireturn, 0, 0, 0), (12, .aload_n 0, 0, 0, 0), (13, .getfield 20, 12, 3, 0), (16, .iload_n 2, 0, 0, 0), (17, .baload, 0, 0, 0), (18, .ifCond .eq 6, 0, 0, 0), (21, .bipush (-3), 0, 0, 0), (23, .ireturn, 0, 0, 0), (24, .iload_n 3, 0, 0, 0), (25, .iconst 0, 0, 0, 0), (26, .aload_n 0, 0, 0, 0), (27, .getfield 27, 12, 5, 0), (30, .bipush 60, 0, 0, 0), (32, .iload_n 1, 0, 0, 0), (33, .imul, 0, 0, 0), (34, .iload_n 2, 0, 0, 0), (35, .iadd, 0, 0, 0), (36, .iaload, 0, 0, 0), (37, .iconst 1, 0, 0, 0), (38, .isub, 0, 0, 0), (39, .invokestatic 140, 113, 1, 3), (42, .ifCond .eq 22, 0, 0, 0), (45, .aload_n 0, 0, 0, 0), (46, .getfield 30, 12, 6, 0), (49, .bipush 64, 0, 0, 0), (51, .bipush 60, 0, 0, 0), (53, .iload_n 1, 0, 0, 0), (54, .imul, 0, 0, 0), (55, .iload_n 2, 0, 0, 0), (56, .iadd, 0, 0, 0), (57, .imul, 0, 0, 0), (58, .iload_n 3, 0, 0, 0), (59, .iadd, 0, 0, 0), (60, .iaload, 0, 0, 0), (61, .goto 5, 0, 0, 0), (64, .bipush (-2), 0, 0, 0), (66, .ireturn, 0, 0, 0)]
def zc_128 : List zE := [(0, .aload_n 0, 0, 0, 0), (1, .getfield 144, 12, 9, 0), (4, .bipush 40, 0, 0, 0), (6, .if_icmp .ne 6, 0, 0, 0), (9, .bipush (-6), 0, 0, 0), (11, .ireturn, 0, 0, 0), (12, .aload_n 0, 0, 0, 0), (13, .getfield 39, 12, 11, 0), (16, .aload_n 0, 0, 0, 0), (17, .getfield 144, 12, 9, 0), (20, .iconst 0, 0, 0, 0), (21, .iastore, 0, 0, 0), (22, .aload_n 0, 0, 0, 0), (23, .getfield 45, 12, 13, 0), (26, .aload_n 0, 0, 0, 0), (27, .getfield 144, 12, 9, 0), (30, .iconst 0, 0, 0, 0), (31, .iastore, 0, 0, 0), (32, .aload_n 0, 0, 0, 0), (33, .getfield 54, 12, 16, 0), (36, .aload_n 0, 0, 0, 0), (37, .getfield 144, 12, 9, 0), (40, .iconst 0, 0, 0, 0), (41, .iastore, 0, 0, 0), (42, .aload_n 0, 0, 0, 0), (43, .getfield 57, 12, 17, 0), (46, .aload_n 0, 0, 0, 0), (47, .getfield 144, 12, 9, 0), (50, .iconst 0, 0, 0, 0), (51, .bastore, 0, 0, 0), (52, .aload_n 0, 0, 0, 0), (53, .getfield 57, 12, 17, 0), (56, .bipush 40, 0, 0, 0), (58, .aload_n 0, 0, 0, 0), (59, .getfield 144, 12, 9, 0), (62, .iadd, 0, 0, 0), (63, .iconst 0, 0, 0, 0), (64, .bastore, 0, 0, 0), (65, .aload_n 0, 0, 0, 0), (66, .dup, 0, 0, 0), (67, .getfield 144, 12, 9, 0), (70, .iconst 1, 0, 0, 0), (71, .iadd, 0, 0, 0), (72, .putfield 144, 12, 9, 0), (75, .aload_n 0, 0, 0, 0), (76, .getfield 144, 12, 9, 0), (79, .iconst 1, 0, 0, 0), (80, .isub, 0, 0, 0), (81, .ireturn, 0, 0, 0)]
def zc_129 : List zE := [(0, .iconst 0, 0, 0, 0), (1, .istore_n 3, 0, 0, 0), (2, .iconst 0, 0, 0, 0), (3, .istore 4, 0, 0, 0), (5, .iload 4, 0, 0, 0), (7, .aload_n 0, 0, 0, 0), (8, .getfield 39, 12, 11, 0), (11, .iload_n 1, 0, 0, 0), (12, .iaload, 0, 0, 0), (13, .if_icmp .ge 85, 0, 0, 0), (16, .aload_n 0, 0, 0, 0), (17, .getfield 36, 12, 10, 0), (20, .bipush 6, 0, 0, 0), (22, .iload_n 1, 0, 0, 0), (23, .imul, 0, 0, 0), (24, .iload 4, 0, 0, 0), (26, .iadd, 0, 0, 0), (27, .iaload, 0, 0, 0), (28, .istore 5, 0, 0, 0), (30, .iconst 0, 0, 0, 0), (31, .istore 6, 0, 0, 0), (33, .iload 6, 0, 0, 0), (35, .aload_n 0, 0, 0, 0), (36, .getfield 45, 12, 13, 0), (39, .iload_n 2, 0, 0, 0), (40, .iaload, 0, 0, 0), (41, .if_icmp .ge 51, 0, 0, 0), (44, .aload_n 0, 0, 0, 0), (45, .getfield 42, 12, 12, 0), (48, .iconst 3, 0, 0, 0), (49, .iload_n 2, 0, 0, 0), (50, .imul, 0, 0, 0), (51, .iload 6, 0, 0, 0), (53, .iadd, 0, 0, 0), (54, .iaload, 0, 0, 0), (55, .istore 7, 0, 0, 0), (57, .iload_n 3, 0, 0, 0), (58, .ifCond .ne 22, 0, 0, 0), (61, .iload 7, 0, 0, 0), (63, .iload 5, 0, 0, 0), (65, .if_icmp .eq 15, 0, 0, 0), (68, .aload_n 0, 0, 0, 0), (69, .getfield 13, 12, 1, 0), (72, .iload 7, 0, 0, 0), (74, .iaload, 0, 0, 0), (75, .iload 5, 0, 0, 0), (77, .if_icmp .ne 7, 0, 0, 0), (80, .iconst 1, 0, 0, 0), (81, .goto 4, 0, 0, 0), (84, .iconst 0, 0, 0, 0), (85, .istore_n 3, 0, 0, 0), (86, .iinc 6 1, 0, 0, 0), (89, .goto (-56), 0, 0, 0), (92, .iinc 4 1, 0, 0, 0), (95, .goto (-90), 0, 0, 0), (98, .iload_n 3, 0, 0, 0), (99, .ireturn, 0, 0, 0)]
def zc_130 : List zE := [(0, .iconst 0, 0, 0, 0), (1, .istore_n 2, 0, 0, 0), (2, .iload_n 2, 0, 0, 0), (3, .aload_n 0, 0, 0, 0), (4, .getfield 144, 12, 9, 0), (7, .if_icmp .ge 21, 0, 0, 0), (10, .aload_n 0, 0, 0, 0), (11, .getfield 113, 12, 41, 0), (14, .iload_n 2, 0, 0, 0), (15, .aload_n 0, 0, 0, 0), (16, .iload_n 1, 0, 0, 0), (17, .iload_n 2, 0, 0, 0), (18, .invokevirtual 170, 129, 0, 2), (21, .bastore, 0, 0, 0), (22, .iinc 2 1, 0, 0, 0), (25, .goto (-23), 0, 0, 0), (28, .iconst 1, 0, 0, 0), (29, .istore_n 2, 0, 0, 0), (30, .iload_n 2, 0, 0, 0), (31, .ifCond .eq 81, 0, 0, 0), (34, .iconst 0, 0, 0, 0), (35, .istore_n 2, 0, 0, 0), (36, .iconst 0, 0, 0, 0), (37, .istore_n 3, 0, 0, 0), (38, .iload_n 3, 0, 0, 0), (39, .aload_n 0, 0, 0, 0), (40, .getfield 144, 12, 9, 0), (43, .if_icmp .ge 66, 0, 0, 0), (46, .iconst 0, 0, 0, 0), (47, .istore 4, 0, 0, 0), (49, .iload 4, 0, 0, 0), (51, .aload_n 0, 0, 0, 0), (52, .getfield 144, 12, 9, 0), (55, .if_icmp .ge 48, 0, 0, 0), (58, .aload_n 0, 0, 0, 0), (59, .getfield 113, 12, 41, 0), (62, .iload_n 3, 0, 0, 0), (63, .baload, 0, 0, 0), (64, .ifCond .eq 39, 0, 0, 0), (67, .aload_n 0, 0, 0, 0), (68, .getfield 113, 12, 41, 0), (71, .iload 4, 0, 0, 0), (73, .baload, 0, 0, 0), (74, .ifCond .ne 23, 0, 0, 0), (77, .aload_n 0, 0, 0, 0), (78, .iload_n 3, 0, 0, 0), (79, .iload 4, 0, 0, 0), (81, .invokevirtual 170, 129, 0, 2), (84, .ifCond .eq 13, 0, 0, 0), (87, .aload_n 0, 0, 0, 0), (88, .getfield 113, 12, 41, 0), (91, .iload 4, 0, 0, 0), (93, .iconst 1, 0, 0, 0), (94, .bastore, 0, 0, 0), (95, .iconst 1, 0, 0, 0), (96, .istore_n 2, 0, 0, 0), (97, .iinc 4 1, 0, 0, 0), (100, .goto (-51), 0, 0, 0), (103, .iinc 3 1, 0, 0, 0), (106, .goto (-68), 0, 0, 0), (109, .goto (-79), 0, 0, 0), (112, .return_, 0, 0, 0)]
def zc_131 : List zE := [(0, .aload_n 0, 0, 0, 0), (1, .iload_n 1, 0, 0, 0), (2, .invokevirtual 173, 130, 0, 1), (5, .aload_n 0, 0, 0, 0), (6, .getfield 113, 12, 41, 0), (9, .iload_n 1, 0, 0, 0), (10, .baload, 0, 0, 0), (11, .ireturn, 0, 0, 0)]
def zc_132 : List zE := [(0, .aload_n 0, 0, 0, 0), (1, .iload_n 1, 0, 0, 0), (2, .invokevirtual 177, 115, 0, 1), (5, .ifCond .eq 11, 0, 0, 0), (8, .aload_n 0, 0, 0, 0), (9, .iload_n 2, 0, 0, 0), (10, .invokevirtual 147, 114, 0, 1), (13, .ifCond .ne 6, 0, 0, 0), (16, .bipush (-2), 0, 0, 0), (18, .ireturn, 0, 0, 0), (19, .iconst 0, 0, 0, 0), (20, .istore_n 3, 0, 0, 0), (21, .iload_n 3, 0, 0, 0), (22, .aload_n 0, 0, 0, 0), (23, .getfield 39, 12, 11, 0), (26, .iload_n 1, 0, 0, 0), (27, .iaload, 0, 0, 0), (28, .if_icmp .ge 27, 0, 0, 0), (31, .aload_n 0, 0, 0, 0), (32, .getfield 36, 12, 10, 0), (35, .bipush 6, 0, 0, 0), (37, .iload_n 1, 0, 0, 0), (38, .imul, 0, 0, 0), (39, .iload_n 3, 0, 0, 0), (40, .iadd, 0, 0, 0), (41, .iaload, 0, 0, 0), (42, .iload_n 2, 0, 0, 0), (43, .if_icmp .ne 6, 0, 0, 0), (46, .bipush (-4), 0, 0, 0), (48, .ireturn, 0, 0, 0), (49, .iinc 3 1, 0, 0, 0), (52, .goto (-31), 0, 0, 0), (55, .aload_n 0, 0, 0, 0), (56, .getfield 39, 12, 11, 0), (59, .iload_n 1, 0, 0, 0), (60, .iaload, 0, 0, 0), (61, .istore_n 3, 0, 0, 0), (62, .iload_n 3, 0, 0, 0), (63, .bipush 6, 0, 0, 0), (65, .if_icmp .ne 21, 0, 0, 0), (68, .aload_n 0, 0, 0, 0), (69, .iload_n 1, 0, 0, 0), (70, .iload_n 2, 0, 0, 0), (71, .iconst 0, 0, 0, 0), (72, .invokevirtual 180, 133, 0, 3), (75, .ifCond .eq 8, 0, 0, 0), (78, .bipush (-5), 0, 0, 0), (80, .goto 5, 0, 0, 0), (83, .bipush (-6), 0, 0, 0), (85, .ireturn, 0, 0, 0), (86, .aload_n 0, 0, 0, 0), (87, .getfield 36, 12, 10, 0), (90, .bipush 6, 0, 0, 0), (92, .iload_n 1, 0, 0, 0), (93, .imul, 0, 0, 0), (94, .iload_n 3, 0, 0, 0), (95, .iadd, 0, 0, 0), (96, .iload_n 2, 0, 0, 0), (97, .iastore, 0, 0, 0), (98, .aload_n 0, 0, 0, 0), (99, .getfield 39, 12, 11, 0), (102, .iload_n 1, 0, 0, 0), (103, .dup2, 0, 0, 0), (104, .iaload, 0, 0, 0), (105, .iconst 1, 0, 0, 0), (106, .iadd, 0, 0, 0), (107, .iastore, 0, 0, 0), (108, .aload_n 0, 0, 0, 0), (109, .iload_n 1, 0, 0, 0), (110, .invokevirtual 184, 131, 0, 1), (113, .ifCond .eq 16, 0, 0, 0), (116, .aload_n 0, 0, 0, 0), (117, .getfield 39, 12, 11, 0), (120, .iload_n 1, 0, 0, 0), (121, .dup2, 0, 0, 0), (122, .iaload, 0, 0, 0), (123, .iconst 1, 0, 0, 0), (124, .isub, 0, 0, 0), (125, .iastore, 0, 0, 0), (126, .bipush (-5), 0, 0, 0), (128, .ireturn, 0, 0, 0), (129, .aload_n 0, 0, 0, 0), (130, .getfield 39, 12, 11, 0), (133, .iload_n 1, 0, 0, 0), (134, .iaload, 0, 0, 0), (135, .ireturn, 0, 0, 0)]
def zc_133 : List zE := [(0, .iconst 0, 0, 0, 0), (1, .istore 4, 0, 0, 0), (3, .iload_n 3, 0, 0, 0), (4, .ifCond .eq 137, 0, 0, 0), (7, .iconst 0, 0, 0, 0), (8, .istore 5, 0, 0, 0), (10, .iload 5, 0, 0, 0), (12, .aload_n 0, 0, 0, 0), (13, .getfield 144, 12, 9, 0), (16, .if_icmp .ge 122, 0, 0, 0), (19, .iconst 0, 0, 0, 0), (20, .istore 6, 0, 0, 0), (22, .iconst 0, 0, 0, 0), (23, .istore 7, 0, 0, 0), (25, .iload 7, 0, 0, 0), (27, .aload_n 0, 0, 0, 0), (28, .getfield 39, 12, 11, 0), (31, .iload 5, 0, 0, 0), (33, .iaload, 0, 0, 0), (34, .if_icmp .ge 60, 0, 0, 0), (37, .iload 6, 0, 0, 0), (39, .ifCond .ne 42, 0, 0, 0), (42, .aload_n 0, 0, 0, 0), (43, .getfield 36, 12, 10, 0), (46, .bipush 6, 0, 0, 0), (48, .iload 5, 0, 0, 0), (50, .imul, 0, 0, 0), (51, .iload 7, 0, 0, 0), (53, .iadd, 0, 0, 0), (54, .iaload, 0, 0, 0), (55, .iload_n 2, 0, 0, 0), (56, .if_icmp .eq 25, 0, 0, 0), (59, .aload_n 0, 0, 0, 0), (60, .getfield 36, 12, 10, 0), (63, .bipush 6, 0, 0, 0), (65, .iload 5, 0, 0, 0), (67, .imul, 0, 0, 0), (68, .iload 7, 0, 0, 0), (70, .iadd, 0, 0, 0), (71, .iaload, 0, 0, 0), (72, .aload_n 0, 0, 0, 0), (73, .getfield 13, 12, 1, 0), (76, .iload_n 2, 0, 0, 0), (77, .iaload, 0, 0, 0), (78, .if_icmp .ne 7, 0, 0, 0), (81, .iconst 1, 0, 0, 0), (82, .goto 4, 0, 0, 0), (85, .iconst 0, 0, 0, 0), (86, .istore 6, 0, 0, 0), (88, .iinc 7 1, 0, 0, 0), (91, .goto (-66), 0, 0, 0), (94, .aload_n 0, 0, 0, 0), (95, .iload_n 1, 0, 0, 0), (96, .invokevirtual 173, 130, 0, 1), (99, .iload 4, 0, 0, 0), (101, .ifCond .ne 24, 0, 0, 0), (104, .iload 6, 0, 0, 0), (106, .ifCond .eq 23, 0, 0, 0), (109, .iload 5, 0, 0, 0), (111, .iload_n 1, 0, 0, 0), (112, .if_icmp .eq 13, 0, 0, 0), (115, .aload_n 0, 0, 0, 0), (116, .getfield 113, 12, 41, 0), (119, .iload 5, 0, 0, 0), (121, .baload, 0, 0, 0), (122, .ifCond .eq 7, 0, 0, 0), (125, .iconst 1, 0, 0, 0), (126, .goto 4, 0, 0, 0), (129, .iconst 0, 0, 0, 0), (130, .istore 4, 0, 0, 0), (132, .iinc 5 1, 0, 0, 0), (135, .goto (-125), 0, 0, 0), (138, .iload 4, 0, 0, 0), (140, .ireturn, 0, 0, 0), (141, .aload_n 0, 0, 0, 0), (142, .iload_n 1, 0, 0, 0), (143, .invokevirtual 173, 130, 0, 1), (146, .iconst 1, 0, 0, 0), (147, .istore 5, 0, 0, 0), (149, .iload 5, 0, 0, 0), (151, .aload_n 0, 0, 0, 0), (152, .getfield 7, 12, 0, 0), (155, .if_icmp .ge 98, 0, 0, 0), (158, .aload_n 0, 0, 0, 0), (159, .getfield 24, 12, 4, 0), (162, .iload 5, 0, 0, 0), (164, .iaload, 0, 0, 0), (165, .istore 6, 0, 0, 0), (167, .iload 6, 0, 0, 0), (169, .iconst (-1), 0, 0, 0), (170, .if_icmp .eq 24, 0, 0, 0), (173, .iload 5, 0, 0, 0), (175, .iload_n 2, 0, 0, 0), (176, .if_icmp .eq 14, 0, 0, 0), (179, .aload_n 0, 0, 0, 0), (180, .getfield 13, 12, 1, 0), (183, .iload 5, 0, 0, 0), (185, .iaload, 0, 0, 0), (186, .iload_n 2, 0, 0, 0), (187, .if_icmp .ne 7, 0, 0, 0), (190, .iconst 1, 0, 0, 0), (191, .goto 4, 0, 0, 0), (194, .iconst 0, 0, 0, 0), (195, .istore 7, 0, 0, 0), (197, .iload 7, 0, 0, 0), (199, .ifCond .eq 48, 0, 0, 0), (202, .iload 4, 0, 0, 0), (204, .ifCond .ne 9, 0, 0, 0), (207, .iload 6, 0, 0, 0), (209, .iload_n 1, 0, 0, 0), (210, .if_icmp .ne 7, 0, 0, 0), (213, .iconst 1, 0, 0, 0), (214, .goto 4, 0, 0, 0), (217, .iconst 0, 0, 0, 0), (218, .istore 4, 0, 0, 0), (220, .aload_n 0, 0, 0, 0), (221, .iload 6, 0, 0, 0), (223, .invokevirtual 173, 130, 0, 1), (226, .iload 4, 0, 0, 0), (228, .ifCond .ne 12, 0, 0, 0), (231, .aload_n 0, 0, 0, 0), (232, .getfield 113, 12, 41, 0), (235, .iload_n 1, 0, 0, 0), (236, .baload, 0, 0, 0), (237, .ifCond .eq 7, 0, 0, 0), (240, .iconst 1, 0, 0, 0), (241, .goto 4, 0, 0, 0), (244, .iconst 0, 0, 0, 0), (245, .istore 4, 0, 0, 0), (247, .iinc 5 1, 0, 0, 0), (250, .goto (-101), 0, 0, 0), (253, .iload 4, 0, 0, 0), (255, .ireturn, 0, 0, 0)]
def zc_134 : List zE := [(0, .aload_n 0, 0, 0, 0), (1, .iload_n 1, 0, 0, 0), (2, .invokevirtual 177, 115, 0, 1), (5, .ifCond .eq 11, 0, 0, 0), (8, .aload_n 0, 0, 0, 0), (9, .iload_n 2, 0, 0, 0), (10, .invokevirtual 147, 114, 0, 1), (13, .ifCond .ne 6, 0, 0, 0), (16, .bipush (-2), 0, 0, 0), (18, .ireturn, 0, 0, 0), (19, .aload_n 0, 0, 0, 0), (20, .getfield 20, 12, 3, 0), (23, .iload_n 2, 0, 0, 0), (24, .baload, 0, 0, 0), (25, .ifCond .eq 6, 0, 0, 0), (28, .bipush (-3), 0, 0, 0), (30, .ireturn, 0, 0, 0), (31, .aload_n 0, 0, 0, 0), (32, .getfield 24, 12, 4, 0), (35, .iload_n 2, 0, 0, 0), (36, .iaload, 0, 0, 0), (37, .iconst (-1), 0, 0, 0), (38, .if_icmp .eq 6, 0, 0, 0), (41, .bipush (-4), 0, 0, 0), (43, .ireturn, 0, 0, 0), (44, .aload_n 0, 0, 0, 0), (45, .iload_n 1, 0, 0, 0), (46, .iload_n 2, 0, 0, 0), (47, .iconst 1, 0, 0, 0), (48, .invokevirtual 180, 133, 0, 3), (51, .ifCond .eq 6, 0, 0, 0), (54, .bipush (-5), 0, 0, 0), (56, .ireturn, 0, 0, 0), (57, .aload_n 0, 0, 0, 0), (58, .getfield 45, 12, 13, 0), (61, .iload_n 1, 0, 0, 0), (62, .iaload, 0, 0, 0), (63, .iconst 3, 0, 0, 0), (64, .if_icmp .ne 6, 0, 0, 0), (67, .bipush (-6), 0, 0, 0), (69, .ireturn, 0, 0, 0), (70, .aload_n 0, 0, 0, 0), (71, .getfield 42, 12, 12, 0), (74, .iconst 3, 0, 0, 0), (75, .iload_n 1, 0, 0, 0), (76, .imul, 0, 0, 0), (77, .aload_n 0, 0, 0, 0), (78, .getfield 45, 12, 13, 0), (81, .iload_n 1, 0, 0, 0), (82, .iaload, 0, 0, 0), (83, .iadd, 0, 0, 0), (84, .iload_n 2, 0, 0, 0), (85, .iastore, 0, 0, 0), (86, .aload_n 0, 0, 0, 0), (87, .getfield 45, 12, 13, 0), (90, .iload_n 1, 0, 0, 0), (91, .dup2, 0, 0, 0), (92, .iaload, 0, 0, 0), (93, .iconst 1, 0, 0, 0), (94, .iadd, 0, 0, 0), (95, .iastore, 0, 0, 0), (96, .aload_n 0, 0, 0, 0), (97, .getfield 24, 12, 4, 0), (100, .iload_n 2, 0, 0, 0), (101, .iload_n 1, 0, 0, 0), (102, .iastore, 0, 0, 0), (103, .aload_n 0, 0, 0, 0), (104, .getfield 27, 12, 5, 0), (107, .iload_n 2, 0, 0, 0), (108, .iconst (-1), 0, 0, 0), (109, .iastore, 0, 0, 0), (110, .aload_n 0, 0, 0, 0), (111, .getfield 27, 12, 5, 0), (114, .bipush 60, 0, 0, 0), (116, .iload_n 2, 0, 0, 0), (117, .iadd, 0, 0, 0), (118, .iconst (-1), 0, 0, 0), (119, .iastore, 0, 0, 0), (120, .aload_n 0, 0, 0, 0), (121, .getfield 45, 12, 13, 0), (124, .iload_n 1, 0, 0, 0), (125, .iaload, 0, 0, 0), (126, .ireturn, 0, 0, 0)]
def zc_135 : List zE := [(0, .aload_n 0, 0, 0, 0), (1, .iload_n 1, 0, 0, 0), (2, .invokevirtual 177, 115, 0, 1), (5, .ifCond .eq 24, 0, 0, 0), (8, .iload_n 2, 0, 0, 0), (9, .iconst 0, 0, 0, 0), (10, .bipush 13, 0, 0, 0), (12, .invokestatic 140, 113, 1, 3), (15, .ifCond .eq 14, 0, 0, 0), (18, .iload_n 3, 0, 0, 0), (19, .iconst 0, 0, 0, 0), (20, .sipush 255, 0, 0, 0), (23, .invokestatic 140, 113, 1, 3), (26, .ifCond .ne 6, 0, 0, 0), (29, .bipush (-2), 0, 0, 0), (31, .ireturn, 0, 0, 0), (32, .aload_n 0, 0, 0, 0), (33, .getfield 54, 12, 16, 0), (36, .iload_n 1, 0, 0, 0), (37, .iaload, 0, 0, 0), (38, .bipush 16, 0, 0, 0), (40, .if_icmp .ne 6, 0, 0, 0), (43, .bipush (-6), 0, 0, 0), (45, .ireturn, 0, 0, 0), (46, .aload_n 0, 0, 0, 0), (47, .getfield 48, 12, 14, 0), (50, .bipush 16, 0, 0, 0), (52, .iload_n 1, 0, 0, 0), (53, .imul, 0, 0, 0), (54, .aload_n 0, 0, 0, 0), (55, .getfield 54, 12, 16, 0), (58, .iload_n 1, 0, 0, 0), (59, .iaload, 0, 0, 0), (60, .iadd, 0, 0, 0), (61, .iload_n 2, 0, 0, 0), (62, .iastore, 0, 0, 0), (63, .aload_n 0, 0, 0, 0), (64, .getfield 51, 12, 15, 0), (67, .bipush 16, 0, 0, 0), (69, .iload_n 1, 0, 0, 0), (70, .imul, 0, 0, 0), (71, .aload_n 0, 0, 0, 0), (72, .getfield 54, 12, 16, 0), (75, .iload_n 1, 0, 0, 0), (76, .iaload, 0, 0, 0), (77, .iadd, 0, 0, 0), (78, .iload_n 3, 0, 0, 0), (79, .iastore, 0, 0, 0), (80, .aload_n 0, 0, 0, 0), (81, .getfield 54, 12, 16, 0), (84, .iload_n 1, 0, 0, 0), (85, .dup2, 0, 0, 0), (86, .iaload, 0, 0, 0), (87, .iconst 1, 0, 0, 0), (88, .iadd, 0, 0, 0), (89, .iastore, 0, 0, 0), (90, .aload_n 0, 0, 0, 0), (91, .getfield 54, 12, 16, 0), (94, .iload_n 1, 0, 0, 0), (95, .iaload, 0, 0, 0), (96, .ireturn, 0, 0, 0)]
def zc_136 : List zE := [(0, .aload_n 0, 0, 0, 0), (1, .iload_n 1, 0, 0, 0), (2, .invokevirtual 177, 115, 0, 1), (5, .ifCond .ne 6, 0, 0, 0), (8, .bipush (-2), 0, 0, 0), (10, .ireturn, 0, 0, 0), (11, .aload_n 0, 0, 0, 0), (12, .getfield 54, 12, 16, 0), (15, .iload_n 1, 0, 0, 0), (16, .iaload, 0, 0, 0), (17, .istore_n 2, 0, 0, 0), (18, .iconst 0, 0, 0, 0), (19, .istore_n 3, 0, 0, 0), (20, .iload_n 3, 0, 0, 0), (21, .aload_n 0, 0, 0, 0), (22, .getfield 45, 12, 13, 0), (25, .iload_n 1, 0, 0, 0), (26, .iaload, 0, 0, 0), (27, .if_icmp .ge 48, 0, 0, 0), (30, .aload_n 0, 0, 0, 0), (31, .getfield 42, 12, 12, 0), (34, .iconst 3, 0, 0, 0), (35, .iload_n 1, 0, 0, 0), (36, .imul, 0, 0, 0), (37, .iload_n 3, 0, 0, 0), (38, .iadd, 0, 0, 0), (39, .iaload, 0, 0, 0), (40, .istore 4, 0, 0, 0), (42, .aload_n 0, 0, 0, 0), (43, .getfield 24, 12, 4, 0), (46, .iload 4, 0, 0, 0), (48, .iconst (-1), 0, 0, 0), (49, .iastore, 0, 0, 0), (50, .aload_n 0, 0, 0, 0), (51, .getfield 27, 12, 5, 0), (54, .iload 4, 0, 0, 0), (56, .iconst (-1), 0, 0, 0), (57, .iastore, 0, 0, 0), (58, .aload_n 0, 0, 0, 0), (59, .getfield 27, 12, 5, 0), (62, .bipush 60, 0, 0, 0), (64, .iload 4, 0, 0, 0), (66, .iadd, 0, 0, 0), (67, .iconst (-1), 0, 0, 0), (68, .iastore, 0, 0, 0), (69, .iinc 3 1, 0, 0, 0), (72, .goto (-52), 0, 0, 0), (75, .aload_n 0, 0, 0, 0), (76, .getfield 39, 12, 11, 0), (79, .iload_n 1, 0, 0, 0), (80, .iconst 0, 0, 0, 0), (81, .iastore, 0, 0, 0), (82, .aload_n 0, 0, 0, 0), (83, .getfield 45, 12, 13, 0), (86, .iload_n 1, 0, 0, 0), (87, .iconst 0, 0, 0, 0), (88, .iastore, 0, 0, 0), (89, .aload_n 0, 0, 0, 0), (90, .getfield 54, 12, 16, 0), (93, .iload_n 1, 0, 0, 0), (94, .iconst 0, 0, 0, 0), (95, .iastore, 0, 0, 0), (96, .iload_n 2, 0, 0, 0), (97, .ireturn, 0, 0, 0)]
def zc_137 : List zE := [(0, .aload_n 0, 0, 0, 0), (1, .iload_n 1, 0, 0, 0), (2, .invokevirtual 177, 115, 0, 1), (5, .ifCond .eq 12, 0, 0, 0), (8, .iload_n 2, 0, 0, 0), (9, .iconst 0, 0, 0, 0), (10, .iconst 3, 0, 0, 0), (11, .invokestatic 140, 113, 1, 3), (14, .ifCond .ne 6, 0, 0, 0), (17, .bipush (-2), 0, 0, 0), (19, .ireturn, 0, 0, 0), (20, .iload_n 2, 0, 0, 0), (21, .iconst 3, 0, 0, 0), (22, .if_icmp .ge 37, 0, 0, 0), (25, .iload_n 2, 0, 0, 0), (26, .ifCond .ne 12, 0, 0, 0), (29, .aload_n 0, 0, 0, 0), (30, .getfield 39, 12, 11, 0), (33, .iload_n 1, 0, 0, 0), (34, .iaload, 0, 0, 0), (35, .goto 23, 0, 0, 0), (38, .iload_n 2, 0, 0, 0), (39, .iconst 1, 0, 0, 0), (40, .if_icmp .ne 12, 0, 0, 0), (43, .aload_n 0, 0, 0, 0), (44, .getfield 45, 12, 13, 0), (47, .iload_n 1, 0, 0, 0), (48, .iaload, 0, 0, 0), (49, .goto 9, 0, 0, 0), (52, .aload_n 0, 0, 0, 0), (53, .getfield 54, 12, 16, 0), (56, .iload_n 1, 0, 0, 0), (57, .iaload, 0, 0, 0), (58, .ireturn, 0, 0, 0), (59, .iconst 0, 0, 0, 0), (60, .istore_n 3, 0, 0, 0), (61, .iconst 0, 0, 0, 0), (62, .istore 4, 0, 0, 0), (64, .iload 4, 0, 0, 0), (66, .aload_n 0, 0, 0, 0), (67, .getfield 144, 12, 9, 0), (70, .if_icmp .ge 27, 0, 0, 0), (73, .iload_n 3, 0, 0, 0), (74, .aload_n 0, 0, 0, 0), (75, .iload_n 1, 0, 0, 0), (76, .iload 4, 0, 0, 0), (78, .invokevirtual 170, 129, 0, 2), (81, .ifCond .eq 7, 0, 0, 0), (84, .iconst 1, 0, 0, 0), (85, .goto 4, 0, 0, 0), (88, .iconst 0, 0, 0, 0), (89, .iadd, 0, 0, 0), (90, .istore_n 3, 0, 0, 0), (91, .iinc 4 1, 0, 0, 0), (94, .goto (-30), 0, 0, 0), (97, .iload_n 3, 0, 0, 0), (98, .ireturn, 0, 0, 0)]
def zc_138 : List zE := [(0, .aload_n 0, 0, 0, 0), (1, .iload_n 1, 0, 0, 0), (2, .invokevirtual 177, 115, 0, 1), (5, .ifCond .eq 11, 0, 0, 0), (8, .aload_n 0, 0, 0, 0), (9, .iload_n 2, 0, 0, 0), (10, .invokevirtual 177, 115, 0, 1), (13, .ifCond .ne 8, 0, 0, 0), (16, .bipush (-2), 0, 0, 0), (18, .goto 17, 0, 0, 0), (21, .aload_n 0, 0, 0, 0), (22, .iload_n 1, 0, 0, 0), (23, .iload_n 2, 0, 0, 0), (24, .invokevirtual 170, 129, 0, 2), (27, .ifCond .eq 7, 0, 0, 0), (30, .iconst 1, 0, 0, 0), (31, .goto 4, 0, 0, 0), (34, .iconst 0, 0, 0, 0), (35, .ireturn, 0, 0, 0)]
def zc_139 : List zE := [(0, .aload_n 0, 0, 0, 0), (1, .getfield 116, 12, 42, 0), (4, .aload_n 0, 0, 0, 0), (5, .getfield 187, 12, 43, 0), (8, .iload_n 1, 0, 0, 0), (9, .iastore, 0, 0, 0), (10, .aload_n 0, 0, 0, 0), (11, .dup, 0, 0, 0), (12, .getfield 187, 12, 43, 0), (15, .iconst 1, 0, 0, 0), (16, .iadd, 0, 0, 0), (17, .putfield 187, 12, 43, 0), (20, .return_, 0, 0, 0)]
def zc_140 : List zE := [(0, .aload_n 0, 0, 0, 0), (1, .aload_n 0, 0, 0, 0), (2, .getfield 45, 12, 13, 0), (5, .iload_n 1, 0, 0, 0), (6, .iaload, 0, 0, 0), (7, .invokevirtual 190, 139, 0, 1), (10, .aload_n 0, 0, 0, 0), (11, .aload_n 0, 0, 0, 0), (12, .getfield 54, 12, 16, 0), (15, .iload_n 1, 0, 0, 0), (16, .iaload, 0, 0, 0), (17, .invokevirtual 190, 139, 0, 1), (20, .iconst 0, 0, 0, 0), (21, .istore_n 2, 0, 0, 0), (22, .iload_n 2, 0, 0, 0), (23, .aload_n 0, 0, 0, 0), (24, .getfield 54, 12, 16, 0), (27, .iload_n 1, 0, 0, 0), (28, .iaload, 0, 0, 0), (29, .if_icmp .ge 39, 0, 0, 0), (32, .aload_n 0, 0, 0, 0), (33, .aload_n 0, 0, 0, 0), (34, .getfield 48, 12, 14, 0), (37, .bipush 16, 0, 0, 0), (39, .iload_n 1, 0, 0, 0), (40, .imul, 0, 0, 0), (41, .iload_n 2, 0, 0, 0), (42, .iadd, 0, 0, 0), (43, .iaload, 0, 0, 0), (44, .invokevirtual 190, 139, 0, 1), (47, .aload_n 0, 0, 0, 0), (48, .aload_n 0, 0, 0, 0), (49, .getfield 51, 12, 15, 0), (52, .bipush 16, 0, 0, 0), (54, .iload_n 1, 0, 0, 0), (55, .imul, 0, 0, 0), (56, .iload_n 2, 0, 0, 0), (57, .iadd, 0, 0, 0), (58, .iaload, 0, 0, 0), (59, .invokevirtual 190, 139, 0, 1), (62, .iinc 2 1, 0, 0, 0), (65, .goto (-43), 0, 0, 0), (68, .aload_n 0, 0, 0, 0), (69, .aload_n 0, 0, 0, 0), (70, .getfield 39, 12, 11, 0), (73, .iload_n 1, 0, 0, 0), (74, .iaload, 0, 0, 0), (75, .invokevirtual 190, 139, 0, 1), (78, .return_, 0, 0, 0)]
def zc_141 : List zE := [(0, .aload_n 0, 0, 0, 0), (1, .iconst 0, 0, 0, 0), (2, .putfield 193, 12, 46, 0), (5, .iconst 1, 0, 0, 0), (6, .istore_n 3, 0, 0, 0), (7, .iload_n 3, 0, 0, 0), (8, .bipush 26, 0, 0, 0), (10, .if_icmp .gt 95, 0, 0, 0), (13, .iconst 1, 0, 0, 0), (14, .istore 4, 0, 0, 0), (16, .iload 4, 0, 0, 0), (18, .aload_n 0, 0, 0, 0), (19, .getfield 7, 12, 0, 0), (22, .if_icmp .ge 77, 0, 0, 0), (25, .aload_n 0, 0, 0, 0), (26, .getfield 13, 12, 1, 0), (29, .iload 4, 0, 0, 0), (31, .iaload, 0, 0, 0), (32, .iload_n 2, 0, 0, 0), (33, .if_icmp .ne 60, 0, 0, 0), (36, .aload_n 0, 0, 0, 0), (37, .getfield 17, 12, 2, 0), (40, .iload 4, 0, 0, 0), (42, .iaload, 0, 0, 0), (43, .iload_n 3, 0, 0, 0), (44, .if_icmp .ne 49, 0, 0, 0), (47, .aload_n 0, 0, 0, 0), (48, .getfield 20, 12, 3, 0), (51, .iload 4, 0, 0, 0), (53, .baload, 0, 0, 0), (54, .ifCond .ne 39, 0, 0, 0), (57, .aload_n 0, 0, 0, 0), (58, .getfield 27, 12, 5, 0), (61, .bipush 60, 0, 0, 0), (63, .iload_n 1, 0, 0, 0), (64, .imul, 0, 0, 0), (65, .iload 4, 0, 0, 0), (67, .iadd, 0, 0, 0), (68, .iaload, 0, 0, 0), (69, .iconst (-1), 0, 0, 0), (70, .if_icmp .eq 23, 0, 0, 0), (73, .aload_n 0, 0, 0, 0), (74, .getfield 122, 12, 45, 0), (77, .aload_n 0, 0, 0, 0), (78, .getfield 193, 12, 46, 0), (81, .iload_n 3, 0, 0, 0), (82, .iastore, 0, 0, 0), (83, .aload_n 0, 0, 0, 0), (84, .dup, 0, 0, 0), (85, .getfield 193, 12, 46, 0), (88, .iconst 1, 0, 0, 0), (89, .iadd, 0, 0, 0), (90, .putfield 193, 12, 46, 0), (93, .iinc 4 1, 0, 0, 0), (96, .goto (-80), 0, 0, 0), (99, .iinc 3 1, 0, 0, 0), (102, .goto (-95), 0, 0, 0), (105, .return_, 0, 0, 0)]
def zc_142 : List zE := [(0, .aload_n 0, 0, 0, 0), (1, .getfield 20, 12, 3, 0), (4, .iload_n 2, 0, 0, 0), (5, .baload, 0, 0, 0), (6, .ifCond .eq 50, 0, 0, 0), (9, .aload_n 0, 0, 0, 0), (10, .iload_n 1, 0, 0, 0), (11, .iload_n 2, 0, 0, 0), (12, .invokevirtual 196, 141, 0, 2), (15, .aload_n 0, 0, 0, 0), (16, .bipush (-2), 0, 0, 0), (18, .invokevirtual 190, 139, 0, 1), (21, .aload_n 0, 0, 0, 0), (22, .aload_n 0, 0, 0, 0), (23, .getfield 193, 12, 46, 0), (26, .invokevirtual 190, 139, 0, 1), (29, .iconst 0, 0, 0, 0), (30, .istore_n 3, 0, 0, 0), (31, .iload_n 3, 0, 0, 0), (32, .aload_n 0, 0, 0, 0), (33, .getfield 193, 12, 46, 0), (36, .if_icmp .ge 19, 0, 0, 0), (39, .aload_n 0, 0, 0, 0), (40, .aload_n 0, 0, 0, 0), (41, .getfield 122, 12, 45, 0), (44, .iload_n 3, 0, 0, 0), (45, .iaload, 0, 0, 0), (46, .invokevirtual 190, 139, 0, 1), (49, .iinc 3 1, 0, 0, 0), (52, .goto (-21), 0, 0, 0), (55, .return_, 0, 0, 0), (56, .bipush 60, 0, 0, 0), (58, .iload_n 1, 0, 0, 0), (59, .imul, 0, 0, 0), (60, .iload_n 2, 0, 0, 0), (61, .iadd, 0, 0, 0), (62, .istore_n 3, 0, 0, 0), (63, .aload_n 0, 0, 0, 0), (64, .aload_n 0, 0, 0, 0), (65, .getfield 27, 12, 5, 0), (68, .iload_n 3, 0, 0, 0), (69, .iaload, 0, 0, 0), (70, .invokevirtual 190, 139, 0, 1), (73, .iconst 0, 0, 0, 0), (74, .istore 4, 0, 0, 0), (76, .iload 4, 0, 0, 0), (78, .aload_n 0, 0, 0, 0), (79, .getfield 27, 12, 5, 0), (82, .iload_n 3, 0, 0, 0), (83, .iaload, 0, 0, 0), (84, .if_icmp .ge 25, 0, 0, 0), (87, .aload_n 0, 0, 0, 0), (88, .aload_n 0, 0, 0, 0), (89, .getfield 30, 12, 6, 0), (92, .bipush 64, 0, 0, 0), (94, .iload_n 3, 0, 0, 0), (95, .imul, 0, 0, 0), (96, .iload 4, 0, 0, 0), (98, .iadd, 0, 0, 0), (99, .iaload, 0, 0, 0), (100, .invokevirtual 190, 139, 0, 1), (103, .iinc 4 1, 0, 0, 0), (106, .goto (-30), 0, 0, 0), (109, .return_, 0, 0, 0)]
def zc_143 : List zE := [(0, .aload_n 0, 0, 0, 0), (1, .iconst 0, 0, 0, 0), (2, .putfield 187, 12, 43, 0), (5, .aload_n 0, 0, 0, 0), (6, .iload_n 2, 0, 0, 0), (7, .invokevirtual 200, 140, 0, 1), (10, .aload_n 0, 0, 0, 0), (11, .getfield 119, 12, 44, 0), (14, .iconst 0, 0, 0, 0), (15, .aload_n 0, 0, 0, 0), (16, .getfield 187, 12, 43, 0), (19, .iastore, 0, 0, 0), (20, .iconst 0, 0, 0, 0), (21, .istore_n 3, 0, 0, 0), (22, .iload_n 3, 0, 0, 0), (23, .aload_n 0, 0, 0, 0), (24, .getfield 39, 12, 11, 0), (27, .iload_n 2, 0, 0, 0), (28, .iaload, 0, 0, 0), (29, .if_icmp .ge 37, 0, 0, 0), (32, .aload_n 0, 0, 0, 0), (33, .iload_n 1, 0, 0, 0), (34, .aload_n 0, 0, 0, 0), (35, .getfield 36, 12, 10, 0), (38, .bipush 6, 0, 0, 0), (40, .iload_n 2, 0, 0, 0), (41, .imul, 0, 0, 0), (42, .iload_n 3, 0, 0, 0), (43, .iadd, 0, 0, 0), (44, .iaload, 0, 0, 0), (45, .invokevirtual 203, 142, 0, 2), (48, .aload_n 0, 0, 0, 0), (49, .getfield 119, 12, 44, 0), (52, .iload_n 3, 0, 0, 0), (53, .iconst 1, 0, 0, 0), (54, .iadd, 0, 0, 0), (55, .aload_n 0, 0, 0, 0), (56, .getfield 187, 12, 43, 0), (59, .iastore, 0, 0, 0), (60, .iinc 3 1, 0, 0, 0), (63, .goto (-41), 0, 0, 0), (66, .return_, 0, 0, 0)]
def zc_144 : List zE := [(0, .ldc2_w 206, 0, 0, 1469598103934665603), (3, .lstore_n 3, 0, 0, 0), (4, .iload_n 1, 0, 0, 0), (5, .istore 5, 0, 0, 0), (7, .iload 5, 0, 0, 0), (9, .iload_n 1, 0, 0, 0), (10, .iload_n 2, 0, 0, 0), (11, .iadd, 0, 0, 0), (12, .if_icmp .ge 21, 0, 0, 0), (15, .lload_n 3, 0, 0, 0), (16, .aload_n 0, 0, 0, 0), (17, .iload 5, 0, 0, 0), (19, .iaload, 0, 0, 0), (20, .i2l, 0, 0, 0), (21, .lxor, 0, 0, 0), (22, .ldc2_w 208, 0, 0, 1099511628211), (25, .lmul, 0, 0, 0), (26, .lstore_n 3, 0, 0, 0), (27, .iinc 5 1, 0, 0, 0), (30, .goto (-23), 0, 0, 0), (33, .lload_n 3, 0, 0, 0), (34, .lreturn, 0, 0, 0)]
def zc_145 : List zE := [(0, .iload_n 1, 0, 0, 0), (1, .iconst 0, 0, 0, 0), (2, .iconst 1, 0, 0, 0), (3, .invokestatic 140, 113, 1, 3), (6, .ifCond .eq 11, 0, 0, 0), (9, .aload_n 0, 0, 0, 0), (10, .iload_n 2, 0, 0, 0), (11, .invokevirtual 177, 115, 0, 1), (14, .ifCond .ne 5, 0, 0, 0), (17, .lconst 0, 0, 0, 0), (18, .lreturn, 0, 0, 0), (19, .aload_n 0, 0, 0, 0), (20, .iload_n 1, 0, 0, 0), (21, .iload_n 2, 0, 0, 0), (22, .invokevirtual 210, 143, 0, 2), (25, .aload_n 0, 0, 0, 0), (26, .getfield 116, 12, 42, 0), (29, .iconst 0, 0, 0, 0), (30, .aload_n 0, 0, 0, 0), (31, .getfield 187, 12, 43, 0), (34, .invokestatic 213, 144, 1, 3), (37, .lreturn, 0, 0, 0)]
def zc_146 : List zE := [(0, .iload_n 2, 0, 0, 0), (1, .iload_n 1, 0, 0, 0), (2, .isub, 0, 0, 0), (3, .iload 5, 0, 0, 0), (5, .if_icmp .ne 7, 0, 0, 0), (8, .iconst 1, 0, 0, 0), (9, .goto 4, 0, 0, 0), (12, .iconst 0, 0, 0, 0), (13, .istore 6, 0, 0, 0), (15, .iconst 0, 0, 0, 0), (16, .istore 7, 0, 0, 0), (18, .iload 7, 0, 0, 0), (20, .iload 5, 0, 0, 0), (22, .if_icmp .ge 40, 0, 0, 0), (25, .iload 6, 0, 0, 0), (27, .ifCond .eq 35, 0, 0, 0), (30, .aload_n 0, 0, 0, 0), (31, .getfield 116, 12, 42, 0), (34, .iload_n 1, 0, 0, 0), (35, .iload 7, 0, 0, 0), (37, .iadd, 0, 0, 0), (38, .iaload, 0, 0, 0), (39, .aload_n 3, 0, 0, 0), (40, .iload 4, 0, 0, 0), (42, .iload 7, 0, 0, 0), (44, .iadd, 0, 0, 0), (45, .iaload, 0, 0, 0), (46, .if_icmp .ne 7, 0, 0, 0), (49, .iconst 1, 0, 0, 0), (50, .goto 4, 0, 0, 0), (53, .iconst 0, 0, 0, 0), (54, .istore 6, 0, 0, 0), (56, .iinc 7 1, 0, 0, 0), (59, .goto (-41), 0, 0, 0), (62, .iload 6, 0, 0, 0), (64, .ireturn, 0, 0, 0)]
def zc_147 : List zE := [(0, .bipush 40, 0, 0, 0), (2, .iload_n 1, 0, 0, 0), (3, .imul, 0, 0, 0), (4, .iload_n 2, 0, 0, 0), (5, .iadd, 0, 0, 0), (6, .istore_n 3, 0, 0, 0), (7, .aload_n 0, 0, 0, 0), (8, .getfield 57, 12, 17, 0), (11, .iload_n 3, 0, 0, 0), (12, .baload, 0, 0, 0), (13, .ifCond .ne 5, 0, 0, 0), (16, .iconst (-1), 0, 0, 0), (17, .ireturn, 0, 0, 0), (18, .aload_n 0, 0, 0, 0), (19, .iload_n 1, 0, 0, 0), (20, .iload_n 2, 0, 0, 0), (21, .invokevirtual 210, 143, 0, 2), (24, .aload_n 0, 0, 0, 0), (25, .iconst 0, 0, 0, 0), (26, .aload_n 0, 0, 0, 0), (27, .getfield 119, 12, 44, 0), (30, .iconst 0, 0, 0, 0), (31, .iaload, 0, 0, 0), (32, .aload_n 0, 0, 0, 0), (33, .getfield 61, 12, 18, 0), (36, .sipush 425, 0, 0, 0), (39, .iload_n 3, 0, 0, 0), (40, .imul, 0, 0, 0), (41, .aload_n 0, 0, 0, 0), (42, .getfield 64, 12, 19, 0), (45, .bipush 7, 0, 0, 0), (47, .iload_n 3, 0, 0, 0), (48, .imul, 0, 0, 0), (49, .iaload, 0, 0, 0), (50, .invokevirtual 217, 146, 0, 5), (53, .ifCond .ne 5, 0, 0, 0), (56, .iconst 1, 0, 0, 0), (57, .ireturn, 0, 0, 0), (58, .iconst 0, 0, 0, 0), (59, .istore 4, 0, 0, 0), (61, .iload 4, 0, 0, 0), (63, .aload_n 0, 0, 0, 0), (64, .getfield 39, 12, 11, 0), (67, .iload_n 2, 0, 0, 0), (68, .iaload, 0, 0, 0), (69, .if_icmp .ge 81, 0, 0, 0), (72, .aload_n 0, 0, 0, 0), (73, .getfield 64, 12, 19, 0), (76, .bipush 7, 0, 0, 0), (78, .iload_n 3, 0, 0, 0), (79, .imul, 0, 0, 0), (80, .iload 4, 0, 0, 0), (82, .iadd, 0, 0, 0), (83, .iaload, 0, 0, 0), (84, .istore 5, 0, 0, 0), (86, .aload_n 0, 0, 0, 0), (87, .aload_n 0, 0, 0, 0), (88, .getfield 119, 12, 44, 0), (91, .iload 4, 0, 0, 0), (93, .iaload, 0, 0, 0), (94, .aload_n 0, 0, 0, 0), (95, .getfield 119, 12, 44, 0), (98, .iload 4, 0, 0, 0), (100, .iconst 1, 0, 0, 0), (101, .iadd, 0, 0, 0), (102, .iaload, 0, 0, 0), (103, .aload_n 0, 0, 0, 0), (104, .getfield 61, 12, 18, 0), (107, .sipush 425, 0, 0, 0), (110, .iload_n 3, 0, 0, 0), (111, .imul, 0, 0, 0), (112, .iload 5, 0, 0, 0), (114, .iadd, 0, 0, 0), (115, .aload_n 0, 0, 0, 0), (116, .getfield 64, 12, 19, 0), (119, .bipush 7, 0, 0, 0), (121, .iload_n 3, 0, 0, 0), (122, .imul, 0, 0, 0), (123, .iload 4, 0, 0, 0), (125, .iadd, 0, 0, 0), (126, .iconst 1, 0, 0, 0), (127, .iadd, 0, 0, 0), (128, .iaload, 0, 0, 0), (129, .iload 5, 0, 0, 0), (131, .isub, 0, 0, 0), (132, .invokevirtual 217, 146, 0, 5), (135, .ifCond .ne 9, 0, 0, 0), (138, .bipush 10, 0, 0, 0), (140, .iload 4, 0, 0, 0), (142, .iadd, 0, 0, 0), (143, .ireturn, 0, 0, 0), (144, .iinc 4 1, 0, 0, 0), (147, .goto (-86), 0, 0, 0), (150, .iconst 0, 0, 0, 0), (151, .ireturn, 0, 0, 0)]
def zc_148 : List zE := [(0, .iload_n 1, 0, 0, 0), (1, .iconst 0, 0, 0, 0), (2, .iconst 1, 0, 0, 0), (3, .invokestatic 140, 113, 1, 3), (6, .ifCond .eq 20, 0, 0, 0), (9, .aload_n 0, 0, 0, 0), (10, .iload_n 2, 0, 0, 0), (11, .invokevirtual 177, 115, 0, 1), (14, .ifCond .eq 12, 0, 0, 0), (17, .aload_n 0, 0, 0, 0), (18, .iload_n 1, 0, 0, 0), (19, .iload_n 2, 0, 0, 0), (20, .invokevirtual 221, 147, 0, 2), (23, .goto 5, 0, 0, 0), (26, .bipush (-2), 0, 0, 0), (28, .ireturn, 0, 0, 0)]
def zc_149 : List zE := [(0, .bipush 40, 0, 0, 0), (2, .iload_n 1, 0, 0, 0), (3, .imul, 0, 0, 0), (4, .iload_n 2, 0, 0, 0), (5, .iadd, 0, 0, 0), (6, .istore_n 3, 0, 0, 0), (7, .aload_n 0, 0, 0, 0), (8, .getfield 57, 12, 17, 0), (11, .iload_n 3, 0, 0, 0), (12, .iconst 1, 0, 0, 0), (13, .bastore, 0, 0, 0), (14, .aload_n 0, 0, 0, 0), (15, .iload_n 1, 0, 0, 0), (16, .iload_n 2, 0, 0, 0), (17, .invokevirtual 210, 143, 0, 2), (20, .iconst 0, 0, 0, 0), (21, .istore 4, 0, 0, 0), (23, .iload 4, 0, 0, 0), (25, .aload_n 0, 0, 0, 0), (26, .getfield 187, 12, 43, 0), (29, .if_icmp .ge 29, 0, 0, 0), (32, .aload_n 0, 0, 0, 0), (33, .getfield 61, 12, 18, 0), (36, .sipush 425, 0, 0, 0), (39, .iload_n 3, 0, 0, 0), (40, .imul, 0, 0, 0), (41, .iload 4, 0, 0, 0), (43, .iadd, 0, 0, 0), (44, .aload_n 0, 0, 0, 0), (45, .getfield 116, 12, 42, 0), (48, .iload 4, 0, 0, 0), (50, .iaload, 0, 0, 0), (51, .iastore, 0, 0, 0), (52, .iinc 4 1, 0, 0, 0), (55, .goto (-32), 0, 0, 0), (58, .iconst 0, 0, 0, 0), (59, .istore 4, 0, 0, 0), (61, .iload 4, 0, 0, 0), (63, .aload_n 0, 0, 0, 0), (64, .getfield 39, 12, 11, 0), (67, .iload_n 2, 0, 0, 0), (68, .iaload, 0, 0, 0), (69, .if_icmp .gt 28, 0, 0, 0), (72, .aload_n 0, 0, 0, 0), (73, .getfield 64, 12, 19, 0), (76, .bipush 7, 0, 0, 0), (78, .iload_n 3, 0, 0, 0), (79, .imul, 0, 0, 0), (80, .iload 4, 0, 0, 0), (82, .iadd, 0, 0, 0), (83, .aload_n 0, 0, 0, 0), (84, .getfield 119, 12, 44, 0), (87, .iload 4, 0, 0, 0), (89, .iaload, 0, 0, 0), (90, .iastore, 0, 0, 0), (91, .iinc 4 1, 0, 0, 0), (94, .goto (-33), 0, 0, 0), (97, .return_, 0, 0, 0)]
def zc_150 : List zE := [(0, .aload_n 0, 0, 0, 0), (1, .getfield 225, 12, 48, 0), (4, .bipush 64, 0, 0, 0), (6, .if_icmp .ne 11, 0, 0, 0), (9, .aload_n 0, 0, 0, 0), (10, .iconst 2, 0, 0, 0), (11, .putfield 228, 12, 49, 0), (14, .goto 23, 0, 0, 0), (17, .aload_n 0, 0, 0, 0), (18, .getfield 125, 12, 47, 0), (21, .aload_n 0, 0, 0, 0), (22, .getfield 225, 12, 48, 0), (25, .iload_n 1, 0, 0, 0), (26, .iastore, 0, 0, 0), (27, .aload_n 0, 0, 0, 0), (28, .dup, 0, 0, 0), (29, .getfield 225, 12, 48, 0), (32, .iconst 1, 0, 0, 0), (33, .iadd, 0, 0, 0), (34, .putfield 225, 12, 48, 0), (37, .return_, 0, 0, 0)]
def zc_151 : List zE := [(0, .aload_n 0, 0, 0, 0), (1, .iconst 0, 0, 0, 0), (2, .putfield 225, 12, 48, 0), (5, .iconst 1, 0, 0, 0), (6, .istore_n 2, 0, 0, 0), (7, .iload_n 1, 0, 0, 0), (8, .iload_n 2, 0, 0, 0), (9, .idiv, 0, 0, 0), (10, .bipush 9, 0, 0, 0), (12, .if_icmp .le 11, 0, 0, 0), (15, .iload_n 2, 0, 0, 0), (16, .bipush 10, 0, 0, 0), (18, .imul, 0, 0, 0), (19, .istore_n 2, 0, 0, 0), (20, .goto (-13), 0, 0, 0), (23, .iload_n 2, 0, 0, 0), (24, .istore_n 3, 0, 0, 0), (25, .iload_n 3, 0, 0, 0), (26, .ifCond .le 24, 0, 0, 0), (29, .aload_n 0, 0, 0, 0), (30, .bipush 48, 0, 0, 0), (32, .iload_n 1, 0, 0, 0), (33, .iload_n 3, 0, 0, 0), (34, .idiv, 0, 0, 0), (35, .bipush 10, 0, 0, 0), (37, .irem, 0, 0, 0), (38, .iadd, 0, 0, 0), (39, .invokevirtual 231, 150, 0, 1), (42, .iload_n 3, 0, 0, 0), (43, .bipush 10, 0, 0, 0), (45, .idiv, 0, 0, 0), (46, .istore_n 3, 0, 0, 0), (47, .goto (-22), 0, 0, 0), (50, .return_, 0, 0, 0)]
def zc_152 : List zE := [(0, .bipush 60, 0, 0, 0), (2, .iload_n 1, 0, 0, 0), (3, .imul, 0, 0, 0), (4, .iload_n 2, 0, 0, 0), (5, .iadd, 0, 0, 0), (6, .istore_n 3, 0, 0, 0), (7, .aload_n 0, 0, 0, 0), (8, .getfield 20, 12, 3, 0), (11, .iload_n 2, 0, 0, 0), (12, .baload, 0, 0, 0), (13, .ifCond .eq 11, 0, 0, 0), (16, .aload_n 0, 0, 0, 0), (17, .iconst 4, 0, 0, 0), (18, .putfield 228, 12, 49, 0), (21, .goto 57, 0, 0, 0), (24, .aload_n 0, 0, 0, 0), (25, .getfield 27, 12, 5, 0), (28, .iload_n 3, 0, 0, 0), (29, .iaload, 0, 0, 0), (30, .iconst (-1), 0, 0, 0), (31, .if_icmp .ne 11, 0, 0, 0), (34, .aload_n 0, 0, 0, 0), (35, .iconst 1, 0, 0, 0), (36, .putfield 228, 12, 49, 0), (39, .goto 39, 0, 0, 0), (42, .iconst 0, 0, 0, 0), (43, .istore 4, 0, 0, 0), (45, .iload 4, 0, 0, 0), (47, .aload_n 0, 0, 0, 0), (48, .getfield 27, 12, 5, 0), (51, .iload_n 3, 0, 0, 0), (52, .iaload, 0, 0, 0), (53, .if_icmp .ge 25, 0, 0, 0), (56, .aload_n 0, 0, 0, 0), (57, .aload_n 0, 0, 0, 0), (58, .getfield 30, 12, 6, 0), (61, .bipush 64, 0, 0, 0), (63, .iload_n 3, 0, 0, 0), (64, .imul, 0, 0, 0), (65, .iload 4, 0, 0, 0), (67, .iadd, 0, 0, 0), (68, .iaload, 0, 0, 0), (69, .invokevirtual 231, 150, 0, 1), (72, .iinc 4 1, 0, 0, 0), (75, .goto (-30), 0, 0, 0), (78, .return_, 0, 0, 0)]
def zc_153 : List zE := [(0, .aload_n 0, 0, 0, 0), (1, .getfield 20, 12, 3, 0), (4, .iload_n 2, 0, 0, 0), (5, .baload, 0, 0, 0), (6, .ifCond .ne 9, 0, 0, 0), (9, .aload_n 0, 0, 0, 0), (10, .iconst 4, 0, 0, 0), (11, .putfield 228, 12, 49, 0), (14, .return_, 0, 0, 0), (15, .aload_n 0, 0, 0, 0), (16, .iload_n 1, 0, 0, 0), (17, .iload_n 2, 0, 0, 0), (18, .invokevirtual 196, 141, 0, 2), (21, .iconst 0, 0, 0, 0), (22, .istore_n 3, 0, 0, 0), (23, .iload_n 3, 0, 0, 0), (24, .aload_n 0, 0, 0, 0), (25, .getfield 193, 12, 46, 0), (28, .if_icmp .ge 22, 0, 0, 0), (31, .aload_n 0, 0, 0, 0), (32, .bipush 96, 0, 0, 0), (34, .aload_n 0, 0, 0, 0), (35, .getfield 122, 12, 45, 0), (38, .iload_n 3, 0, 0, 0), (39, .iaload, 0, 0, 0), (40, .iadd, 0, 0, 0), (41, .invokevirtual 231, 150, 0, 1), (44, .iinc 3 1, 0, 0, 0), (47, .goto (-24), 0, 0, 0), (50, .return_, 0, 0, 0)]
def zc_154 : List zE := [(0, .aload_n 0, 0, 0, 0), (1, .getfield 128, 12, 50, 0), (4, .iload_n 1, 0, 0, 0), (5, .aload_n 0, 0, 0, 0), (6, .getfield 225, 12, 48, 0), (9, .iastore, 0, 0, 0), (10, .iconst 0, 0, 0, 0), (11, .istore_n 2, 0, 0, 0), (12, .iload_n 2, 0, 0, 0), (13, .aload_n 0, 0, 0, 0), (14, .getfield 225, 12, 48, 0), (17, .if_icmp .ge 26, 0, 0, 0), (20, .aload_n 0, 0, 0, 0), (21, .getfield 131, 12, 51, 0), (24, .bipush 64, 0, 0, 0), (26, .iload_n 1, 0, 0, 0), (27, .imul, 0, 0, 0), (28, .iload_n 2, 0, 0, 0), (29, .iadd, 0, 0, 0), (30, .aload_n 0, 0, 0, 0), (31, .getfield 125, 12, 47, 0), (34, .iload_n 2, 0, 0, 0), (35, .iaload, 0, 0, 0), (36, .iastore, 0, 0, 0), (37, .iinc 2 1, 0, 0, 0), (40, .goto (-28), 0, 0, 0), (43, .aload_n 0, 0, 0, 0), (44, .iconst 0, 0, 0, 0), (45, .putfield 225, 12, 48, 0), (48, .return_, 0, 0, 0)]
def zc_155 : List zE := [(0, .iconst 0, 0, 0, 0), (1, .istore_n 1, 0, 0, 0), (2, .iload_n 1, 0, 0, 0), (3, .aload_n 0, 0, 0, 0), (4, .getfield 225, 12, 48, 0), (7, .iconst 2, 0, 0, 0), (8, .idiv, 0, 0, 0), (9, .if_icmp .ge 49, 0, 0, 0), (12, .aload_n 0, 0, 0, 0), (13, .getfield 125, 12, 47, 0), (16, .iload_n 1, 0, 0, 0), (17, .iaload, 0, 0, 0), (18, .istore_n 2, 0, 0, 0), (19, .aload_n 0, 0, 0, 0), (20, .getfield 125, 12, 47, 0), (23, .iload_n 1, 0, 0, 0), (24, .aload_n 0, 0, 0, 0), (25, .getfield 125, 12, 47, 0), (28, .aload_n 0, 0, 0, 0), (29, .getfield 225, 12, 48, 0), (32, .iconst 1, 0, 0, 0), (33, .isub, 0, 0, 0), (34, .iload_n 1, 0, 0, 0), (35, .isub, 0, 0, 0), (36, .iaload, 0, 0, 0), (37, .iastore, 0, 0, 0), (38, .aload_n 0, 0, 0, 0), (39, .getfield 125, 12, 47, 0), (42, .aload_n 0, 0, 0, 0), (43, .getfield 225, 12, 48, 0), (46, .iconst 1, 0, 0, 0), (47, .isub, 0, 0, 0), (48, .iload_n 1, 0, 0, 0), (49, .isub, 0, 0, 0), (50, .iload_n 2, 0, 0, 0), (51, .iastore, 0, 0, 0), (52, .iinc 1 1, 0, 0, 0), (55, .goto (-53), 0, 0, 0), (58, .return_, 0, 0, 0)]
def zc_156 : List zE := [(0, .iconst 1, 0, 0, 0), (1, .istore_n 1, 0, 0, 0), (2, .iload_n 1, 0, 0, 0), (3, .aload_n 0, 0, 0, 0), (4, .getfield 225, 12, 48, 0), (7, .if_icmp .ge 61, 0, 0, 0), (10, .aload_n 0, 0, 0, 0), (11, .getfield 125, 12, 47, 0), (14, .iload_n 1, 0, 0, 0), (15, .iaload, 0, 0, 0), (16, .istore_n 2, 0, 0, 0), (17, .iload_n 1, 0, 0, 0), (18, .istore_n 3, 0, 0, 0), (19, .iload_n 3, 0, 0, 0), (20, .ifCond .le 35, 0, 0, 0), (23, .aload_n 0, 0, 0, 0), (24, .getfield 125, 12, 47, 0), (27, .iload_n 3, 0, 0, 0), (28, .iconst 1, 0, 0, 0), (29, .isub, 0, 0, 0), (30, .iaload, 0, 0, 0), (31, .iload_n 2, 0, 0, 0), (32, .if_icmp .le 23, 0, 0, 0), (35, .aload_n 0, 0, 0, 0), (36, .getfield 125, 12, 47, 0), (39, .iload_n 3, 0, 0, 0), (40, .aload_n 0, 0, 0, 0), (41, .getfield 125, 12, 47, 0), (44, .iload_n 3, 0, 0, 0), (45, .iconst 1, 0, 0, 0), (46, .isub, 0, 0, 0), (47, .iaload, 0, 0, 0), (48, .iastore, 0, 0, 0), (49, .iinc 3 (-1), 0, 0, 0), (52, .goto (-33), 0, 0, 0), (55, .aload_n 0, 0, 0, 0), (56, .getfield 125, 12, 47, 0), (59, .iload_n 3, 0, 0, 0), (60, .iload_n 2, 0, 0, 0), (61, .iastore, 0, 0, 0), (62, .iinc 1 1, 0, 0, 0), (65, .goto (-63), 0, 0, 0), (68, .return_, 0, 0, 0)]
def zc_157 : List zE := [(0, .iconst 0, 0, 0, 0), (1, .istore_n 1, 0, 0, 0), (2, .iconst 0, 0, 0, 0), (3, .istore_n 2, 0, 0, 0), (4, .iload_n 2, 0, 0, 0), (5, .aload_n 0, 0, 0, 0), (6, .getfield 225, 12, 48, 0), (9, .if_icmp .ge 76, 0, 0, 0), (12, .iconst 0, 0, 0, 0), (13, .istore_n 3, 0, 0, 0), (14, .iconst 0, 0, 0, 0), (15, .istore 4, 0, 0, 0), (17, .iload 4, 0, 0, 0), (19, .iload_n 1, 0, 0, 0), (20, .if_icmp .ge 35, 0, 0, 0), (23, .iload_n 3, 0, 0, 0), (24, .ifCond .ne 19, 0, 0, 0), (27, .aload_n 0, 0, 0, 0), (28, .getfield 125, 12, 47, 0), (31, .iload 4, 0, 0, 0), (33, .iaload, 0, 0, 0), (34, .aload_n 0, 0, 0, 0), (35, .getfield 125, 12, 47, 0), (38, .iload_n 2, 0, 0, 0), (39, .iaload, 0, 0, 0), (40, .if_icmp .ne 7, 0, 0, 0), (43, .iconst 1, 0, 0, 0), (44, .goto 4, 0, 0, 0), (47, .iconst 0, 0, 0, 0), (48, .istore_n 3, 0, 0, 0), (49, .iinc 4 1, 0, 0, 0), (52, .goto (-35), 0, 0, 0), (55, .aload_n 0, 0, 0, 0), (56, .getfield 125, 12, 47, 0), (59, .iload_n 1, 0, 0, 0), (60, .aload_n 0, 0, 0, 0), (61, .getfield 125, 12, 47, 0), (64, .iload_n 2, 0, 0, 0), (65, .iaload, 0, 0, 0), (66, .iastore, 0, 0, 0), (67, .iload_n 1, 0, 0, 0), (68, .iload_n 3, 0, 0, 0), (69, .ifCond .eq 7, 0, 0, 0), (72, .iconst 0, 0, 0, 0), (73, .goto 4, 0, 0, 0), (76, .iconst 1, 0, 0, 0), (77, .iadd, 0, 0, 0), (78, .istore_n 1, 0, 0, 0), (79, .iinc 2 1, 0, 0, 0), (82, .goto (-78), 0, 0, 0), (85, .aload_n 0, 0, 0, 0), (86, .iload_n 1, 0, 0, 0), (87, .putfield 225, 12, 48, 0), (90, .return_, 0, 0, 0)]
def zc_158 : List zE := [(0, .aload_n 0, 0, 0, 0), (1, .getfield 225, 12, 48, 0), (4, .istore_n 1, 0, 0, 0), (5, .iconst 0, 0, 0, 0), (6, .istore_n 2, 0, 0, 0), (7, .iload_n 2, 0, 0, 0), (8, .iload_n 1, 0, 0, 0), (9, .if_icmp .ge 19, 0, 0, 0), (12, .aload_n 0, 0, 0, 0), (13, .aload_n 0, 0, 0, 0), (14, .getfield 125, 12, 47, 0), (17, .iload_n 2, 0, 0, 0), (18, .iaload, 0, 0, 0), (19, .invokevirtual 231, 150, 0, 1), (22, .iinc 2 1, 0, 0, 0), (25, .goto (-18), 0, 0, 0), (28, .return_, 0, 0, 0)]
def zc_159 : List zE := [(0, .iconst 0, 0, 0, 0), (1, .istore_n 1, 0, 0, 0), (2, .iconst 0, 0, 0, 0), (3, .istore_n 2, 0, 0, 0), (4, .iload_n 2, 0, 0, 0), (5, .aload_n 0, 0, 0, 0), (6, .getfield 225, 12, 48, 0), (9, .if_icmp .ge 18, 0, 0, 0), (12, .iload_n 1, 0, 0, 0), (13, .aload_n 0, 0, 0, 0), (14, .getfield 125, 12, 47, 0), (17, .iload_n 2, 0, 0, 0), (18, .iaload, 0, 0, 0), (19, .iadd, 0, 0, 0), (20, .istore_n 1, 0, 0, 0), (21, .iinc 2 1, 0, 0, 0), (24, .goto (-20), 0, 0, 0), (27, .iload_n 1, 0, 0, 0), (28, .ireturn, 0, 0, 0)]
def zc_160 : List zE := [(0, .iconst 0, 0, 0, 0), (1, .istore_n 2, 0, 0, 0), (2, .iload_n 2, 0, 0, 0), (3, .aload_n 0, 0, 0, 0), (4, .getfield 225, 12, 48, 0), (7, .if_icmp .ge 23, 0, 0, 0), (10, .aload_n 0, 0, 0, 0), (11, .getfield 125, 12, 47, 0), (14, .iload_n 2, 0, 0, 0), (15, .aload_n 0, 0, 0, 0), (16, .getfield 125, 12, 47, 0), (19, .iload_n 2, 0, 0, 0), (20, .iaload, 0, 0, 0), (21, .iload_n 1, 0, 0, 0), (22, .ixor, 0, 0, 0), (23, .iastore, 0, 0, 0), (24, .iinc 2 1, 0, 0, 0), (27, .goto (-25), 0, 0, 0), (30, .return_, 0, 0, 0)]
def zc_161 : List zE := [(0, .iload_n 1, 0, 0, 0), (1, .tableswitch 153 1 12 #[63, 153, 153, 71, 78, 85, 96, 107, 153, 130, 137, 145], 0, 0, 0), (64, .aload_n 0, 0, 0, 0), (65, .iload_n 2, 0, 0, 0), (66, .invokevirtual 231, 150, 0, 1), (69, .goto 89, 0, 0, 0), (72, .aload_n 0, 0, 0, 0), (73, .invokevirtual 234, 155, 0, 0), (76, .goto 82, 0, 0, 0), (79, .aload_n 0, 0, 0, 0), (80, .invokevirtual 237, 156, 0, 0), (83, .goto 75, 0, 0, 0), (86, .aload_n 0, 0, 0, 0), (87, .aload_n 0, 0, 0, 0), (88, .getfield 225, 12, 48, 0), (91, .invokevirtual 240, 151, 0, 1), (94, .goto 64, 0, 0, 0), (97, .aload_n 0, 0, 0, 0), (98, .aload_n 0, 0, 0, 0), (99, .invokevirtual 243, 159, 0, 0), (102, .invokevirtual 240, 151, 0, 1), (105, .goto 53, 0, 0, 0), (108, .aload_n 0, 0, 0, 0), (109, .aload_n 0, 0, 0, 0), (110, .getfield 225, 12, 48, 0), (113, .iload_n 2, 0, 0, 0), (114, .if_icmp .ge 10, 0, 0, 0), (117, .aload_n 0, 0, 0, 0), (118, .getfield 225, 12, 48, 0), (121, .goto 4, 0, 0, 0), (124, .iload_n 2, 0, 0, 0), (125, .putfield 225, 12, 48, 0), (128, .goto 30, 0, 0, 0), (131, .aload_n 0, 0, 0, 0), (132, .invokevirtual 247, 157, 0, 0), (135, .goto 23, 0, 0, 0), (138, .aload_n 0, 0, 0, 0), (139, .iconst 5, 0, 0, 0), (140, .putfield 228, 12, 49, 0), (143, .goto 15, 0, 0, 0), (146, .aload_n 0, 0, 0, 0), (147, .iload_n 2, 0, 0, 0), (148, .invokevirtual 250, 160, 0, 1), (151, .goto 7, 0, 0, 0), (154, .aload_n 0, 0, 0, 0), (155, .invokevirtual 253, 158, 0, 0), (158, .return_, 0, 0, 0)]
def zc_162 : List zE := [(0, .aload_n 0, 0, 0, 0), (1, .iconst 0, 0, 0, 0), (2, .putfield 225, 12, 48, 0), (5, .aload_n 0, 0, 0, 0), (6, .iconst 0, 0, 0, 0), (7, .putfield 228, 12, 49, 0), (10, .iconst 0, 0, 0, 0), (11, .istore_n 3, 0, 0, 0), (12, .iload_n 3, 0, 0, 0), (13, .iconst 3, 0, 0, 0), (14, .if_icmp .ge 16, 0, 0, 0), (17, .aload_n 0, 0, 0, 0), (18, .getfield 128, 12, 50, 0), (21, .iload_n 3, 0, 0, 0), (22, .iconst (-1), 0, 0, 0), (23, .iastore, 0, 0, 0), (24, .iinc 3 1, 0, 0, 0), (27, .goto (-15), 0, 0, 0), (30, .iconst 0, 0, 0, 0), (31, .istore_n 3, 0, 0, 0), (32, .iload_n 3, 0, 0, 0), (33, .aload_n 0, 0, 0, 0), (34, .getfield 54, 12, 16, 0), (37, .iload_n 2, 0, 0, 0), (38, .iaload, 0, 0, 0), (39, .if_icmp .ge 254, 0, 0, 0), (42, .aload_n 0, 0, 0, 0), (43, .getfield 228, 12, 49, 0), (46, .ifCond .ne 247, 0, 0, 0), (49, .aload_n 0, 0, 0, 0), (50, .getfield 48, 12, 14, 0), (53, .bipush 16, 0, 0, 0), (55, .iload_n 2, 0, 0, 0), (56, .imul, 0, 0, 0), (57, .iload_n 3, 0, 0, 0), (58, .iadd, 0, 0, 0), (59, .iaload, 0, 0, 0), (60, .istore 4, 0, 0, 0), (62, .aload_n 0, 0, 0, 0), (63, .getfield 51, 12, 15, 0), (66, .bipush 16, 0, 0, 0), (68, .iload_n 2, 0, 0, 0), (69, .imul, 0, 0, 0), (70, .iload_n 3, 0, 0, 0), (71, .iadd, 0, 0, 0), (72, .iaload, 0, 0, 0), (73, .istore 5, 0, 0, 0), (75, .iload 4, 0, 0, 0), (77, .ifCond .eq 16, 0, 0, 0), (80, .iload 4, 0, 0, 0), (82, .iconst 2, 0, 0, 0), (83, .if_icmp .eq 10, 0, 0, 0), (86, .iload 4, 0, 0, 0), (88, .bipush 9, 0, 0, 0), (90, .if_icmp .ne 7, 0, 0, 0), (93, .iconst 1, 0, 0, 0), (94, .goto 4, 0, 0, 0), (97, .iconst 0, 0, 0, 0), (98, .istore 6, 0, 0, 0), (100, .iload 6, 0, 0, 0), (102, .ifCond .eq 14, 0, 0, 0), (105, .iload 5, 0, 0, 0), (107, .aload_n 0, 0, 0, 0), (108, .getfield 39, 12, 11, 0), (111, .iload_n 2, 0, 0, 0), (112, .iaload, 0, 0, 0), (113, .if_icmp .ge 20, 0, 0, 0), (116, .iload 4, 0, 0, 0), (118, .iconst 3, 0, 0, 0), (119, .if_icmp .ne 22, 0, 0, 0), (122, .iload 5, 0, 0, 0), (124, .aload_n 0, 0, 0, 0), (125, .getfield 45, 12, 13, 0), (128, .iload_n 2, 0, 0, 0), (129, .iaload, 0, 0, 0), (130, .if_icmp .lt 11, 0, 0, 0), (133, .aload_n 0, 0, 0, 0), (134, .iconst 3, 0, 0, 0), (135, .putfield 228, 12, 49, 0), (138, .goto 149, 0, 0, 0), (141, .iload 4, 0, 0, 0), (143, .iconst 3, 0, 0, 0), (144, .if_icmp .ne 12, 0, 0, 0), (147, .aload_n 0, 0, 0, 0), (148, .iload 5, 0, 0, 0), (150, .invokevirtual 256, 154, 0, 1), (153, .goto 134, 0, 0, 0), (156, .iload 6, 0, 0, 0), (158, .ifCond .ne 14, 0, 0, 0), (161, .aload_n 0, 0, 0, 0), (162, .iload 4, 0, 0, 0), (164, .iload 5, 0, 0, 0), (166, .invokevirtual 259, 161, 0, 2), (169, .goto 118, 0, 0, 0), (172, .iload 4, 0, 0, 0), (174, .ifCond .ne 23, 0, 0, 0), (177, .aload_n 0, 0, 0, 0), (178, .iload_n 1, 0, 0, 0), (179, .aload_n 0, 0, 0, 0), (180, .getfield 36, 12, 10, 0), (183, .bipush 6, 0, 0, 0), (185, .iload_n 2, 0, 0, 0), (186, .imul, 0, 0, 0), (187, .iload 5, 0, 0, 0), (189, .iadd, 0, 0, 0), (190, .iaload, 0, 0, 0), (191, .invokevirtual 262, 152, 0, 2), (194, .goto 93, 0, 0, 0), (197, .iload 4, 0, 0, 0), (199, .iconst 2, 0, 0, 0), (200, .if_icmp .ne 23, 0, 0, 0), (203, .aload_n 0, 0, 0, 0), (204, .iload_n 1, 0, 0, 0), (205, .aload_n 0, 0, 0, 0), (206, .getfield 36, 12, 10, 0), (209, .bipush 6, 0, 0, 0), (211, .iload_n 2, 0, 0, 0), (212, .imul, 0, 0, 0), (213, .iload 5, 0, 0, 0), (215, .iadd, 0, 0, 0), (216, .iaload, 0, 0, 0), (217, .invokevirtual 265, 153, 0, 2), (220, .goto 67, 0, 0, 0), (223, .aload_n 0, 0, 0, 0), (224, .getfield 36, 12, 10, 0), (227, .bipush 6, 0, 0, 0), (229, .iload_n 2, 0, 0, 0), (230, .imul, 0, 0, 0), (231, .iload 5, 0, 0, 0), (233, .iadd, 0, 0, 0), (234, .iaload, 0, 0, 0), (235, .istore 7, 0, 0, 0), (237, .aload_n 0, 0, 0, 0), (238, .aload_n 0, 0, 0, 0), (239, .getfield 20, 12, 3, 0), (242, .iload 7, 0, 0, 0), (244, .baload, 0, 0, 0), (245, .ifCond .eq 7, 0, 0, 0), (248, .iconst 4, 0, 0, 0), (249, .goto 4, 0, 0, 0), (252, .iconst 0, 0, 0, 0), (253, .putfield 228, 12, 49, 0), (256, .iload_n 3, 0, 0, 0), (257, .aload_n 0, 0, 0, 0), (258, .getfield 228, 12, 49, 0), (261, .ifCond .ne 23, 0, 0, 0), (264, .aload_n 0, 0, 0, 0), (265, .getfield 27, 12, 5, 0), (268, .bipush 60, 0, 0, 0), (270, .iload_n 1, 0, 0, 0), (271, .imul, 0, 0, 0), (272, .iload 7, 0, 0, 0), (274, .iadd, 0, 0, 0), (275, .iaload, 0, 0, 0), (276, .iconst (-1), 0, 0, 0), (277, .if_icmp .eq 7, 0, 0, 0), (280, .iconst 1, 0, 0, 0), (281, .goto 4, 0, 0, 0), (284, .iconst 0, 0, 0, 0), (285, .iadd, 0, 0, 0), (286, .istore_n 3, 0, 0, 0), (287, .iinc 3 1, 0, 0, 0), (290, .goto (-258), 0, 0, 0), (293, .iconst 0, 0, 0, 0), (294, .istore_n 3, 0, 0, 0), (295, .iload_n 3, 0, 0, 0), (296, .iconst 3, 0, 0, 0), (297, .if_icmp .ge 23, 0, 0, 0), (300, .aload_n 0, 0, 0, 0), (301, .getfield 228, 12, 49, 0), (304, .ifCond .le 16, 0, 0, 0), (307, .aload_n 0, 0, 0, 0), (308, .getfield 128, 12, 50, 0), (311, .iload_n 3, 0, 0, 0), (312, .iconst (-1), 0, 0, 0), (313, .iastore, 0, 0, 0), (314, .iinc 3 1, 0, 0, 0), (317, .goto (-22), 0, 0, 0), (320, .return_, 0, 0, 0)]
def zc_163 : List zE := [(0, .iconst 0, 0, 0, 0), (1, .istore_n 3, 0, 0, 0), (2, .iload_n 3, 0, 0, 0), (3, .aload_n 0, 0, 0, 0), (4, .getfield 45, 12, 13, 0), (7, .iload_n 2, 0, 0, 0), (8, .iaload, 0, 0, 0), (9, .if_icmp .ge 84, 0, 0, 0), (12, .bipush 60, 0, 0, 0), (14, .iload_n 1, 0, 0, 0), (15, .imul, 0, 0, 0), (16, .aload_n 0, 0, 0, 0), (17, .getfield 42, 12, 12, 0), (20, .iconst 3, 0, 0, 0), (21, .iload_n 2, 0, 0, 0), (22, .imul, 0, 0, 0), (23, .iload_n 3, 0, 0, 0), (24, .iadd, 0, 0, 0), (25, .iaload, 0, 0, 0), (26, .iadd, 0, 0, 0), (27, .istore 4, 0, 0, 0), (29, .aload_n 0, 0, 0, 0), (30, .getfield 27, 12, 5, 0), (33, .iload 4, 0, 0, 0), (35, .aload_n 0, 0, 0, 0), (36, .getfield 128, 12, 50, 0), (39, .iload_n 3, 0, 0, 0), (40, .iaload, 0, 0, 0), (41, .iastore, 0, 0, 0), (42, .iconst 0, 0, 0, 0), (43, .istore 5, 0, 0, 0), (45, .iload 5, 0, 0, 0), (47, .aload_n 0, 0, 0, 0), (48, .getfield 128, 12, 50, 0), (51, .iload_n 3, 0, 0, 0), (52, .iaload, 0, 0, 0), (53, .if_icmp .ge 34, 0, 0, 0), (56, .aload_n 0, 0, 0, 0), (57, .getfield 30, 12, 6, 0), (60, .bipush 64, 0, 0, 0), (62, .iload 4, 0, 0, 0), (64, .imul, 0, 0, 0), (65, .iload 5, 0, 0, 0), (67, .iadd, 0, 0, 0), (68, .aload_n 0, 0, 0, 0), (69, .getfield 131, 12, 51, 0), (72, .bipush 64, 0, 0, 0), (74, .iload_n 3, 0, 0, 0), (75, .imul, 0, 0, 0), (76, .iload 5, 0, 0, 0), (78, .iadd, 0, 0, 0), (79, .iaload, 0, 0, 0), (80, .iastore, 0, 0, 0), (81, .iinc 5 1, 0, 0, 0), (84, .goto (-39), 0, 0, 0), (87, .iinc 3 1, 0, 0, 0), (90, .goto (-88), 0, 0, 0), (93, .return_, 0, 0, 0)]
def zc_164 : List zE := [(0, .iconst 0, 0, 0, 0), (1, .istore_n 1, 0, 0, 0), (2, .iconst 0, 0, 0, 0), (3, .istore_n 2, 0, 0, 0), (4, .iload_n 2, 0, 0, 0), (5, .aload_n 0, 0, 0, 0), (6, .getfield 268, 12, 21, 0), (9, .if_icmp .ge 23, 0, 0, 0), (12, .iload_n 1, 0, 0, 0), (13, .aload_n 0, 0, 0, 0), (14, .getfield 83, 12, 26, 0), (17, .aload_n 0, 0, 0, 0), (18, .getfield 70, 12, 22, 0), (21, .iload_n 2, 0, 0, 0), (22, .iaload, 0, 0, 0), (23, .iaload, 0, 0, 0), (24, .iadd, 0, 0, 0), (25, .istore_n 1, 0, 0, 0), (26, .iinc 2 1, 0, 0, 0), (29, .goto (-25), 0, 0, 0), (32, .iload_n 1, 0, 0, 0), (33, .ireturn, 0, 0, 0)]
def zc_165 : List zE := [(0, .aload_n 0, 0, 0, 0), (1, .dup, 0, 0, 0), (2, .getfield 268, 12, 21, 0), (5, .iconst 1, 0, 0, 0), (6, .isub, 0, 0, 0), (7, .putfield 268, 12, 21, 0), (10, .iload_n 1, 0, 0, 0), (11, .istore_n 2, 0, 0, 0), (12, .iload_n 2, 0, 0, 0), (13, .aload_n 0, 0, 0, 0), (14, .getfield 268, 12, 21, 0), (17, .if_icmp .ge 23, 0, 0, 0), (20, .aload_n 0, 0, 0, 0), (21, .getfield 70, 12, 22, 0), (24, .iload_n 2, 0, 0, 0), (25, .aload_n 0, 0, 0, 0), (26, .getfield 70, 12, 22, 0), (29, .iload_n 2, 0, 0, 0), (30, .iconst 1, 0, 0, 0), (31, .iadd, 0, 0, 0), (32, .iaload, 0, 0, 0), (33, .iastore, 0, 0, 0), (34, .iinc 2 1, 0, 0, 0), (37, .goto (-25), 0, 0, 0), (40, .return_, 0, 0, 0)]
def zc_166 : List zE := [(0, .iconst 0, 0, 0, 0), (1, .istore_n 2, 0, 0, 0), (2, .aload_n 0, 0, 0, 0), (3, .getfield 268, 12, 21, 0), (6, .bipush 100, 0, 0, 0), (8, .if_icmp .gt 11, 0, 0, 0), (11, .aload_n 0, 0, 0, 0), (12, .invokevirtual 271, 164, 0, 0), (15, .iload_n 1, 0, 0, 0), (16, .if_icmp .le 26, 0, 0, 0), (19, .aload_n 0, 0, 0, 0), (20, .getfield 73, 12, 23, 0), (23, .aload_n 0, 0, 0, 0), (24, .getfield 70, 12, 22, 0), (27, .iconst 0, 0, 0, 0), (28, .iaload, 0, 0, 0), (29, .iconst 0, 0, 0, 0), (30, .bastore, 0, 0, 0), (31, .aload_n 0, 0, 0, 0), (32, .iconst 0, 0, 0, 0), (33, .invokevirtual 274, 165, 0, 1), (36, .iinc 2 1, 0, 0, 0), (39, .goto (-37), 0, 0, 0), (42, .aload_n 0, 0, 0, 0), (43, .dup, 0, 0, 0), (44, .getfield 277, 12, 39, 0), (47, .iload_n 2, 0, 0, 0), (48, .iadd, 0, 0, 0), (49, .putfield 277, 12, 39, 0), (52, .iload_n 2, 0, 0, 0), (53, .ireturn, 0, 0, 0)]
def zc_167 : List zE := [(0, .iconst (-1), 0, 0, 0), (1, .istore_n 1, 0, 0, 0), (2, .iconst 0, 0, 0, 0), (3, .istore_n 2, 0, 0, 0), (4, .iload_n 2, 0, 0, 0), (5, .aload_n 0, 0, 0, 0), (6, .getfield 268, 12, 21, 0), (9, .if_icmp .ge 52, 0, 0, 0), (12, .aload_n 0, 0, 0, 0), (13, .iconst 0, 0, 0, 0), (14, .aload_n 0, 0, 0, 0), (15, .getfield 187, 12, 43, 0), (18, .aload_n 0, 0, 0, 0), (19, .getfield 77, 12, 24, 0), (22, .sipush 425, 0, 0, 0), (25, .aload_n 0, 0, 0, 0), (26, .getfield 70, 12, 22, 0), (29, .iload_n 2, 0, 0, 0), (30, .iaload, 0, 0, 0), (31, .imul, 0, 0, 0), (32, .aload_n 0, 0, 0, 0), (33, .getfield 80, 12, 25, 0), (36, .aload_n 0, 0, 0, 0), (37, .getfield 70, 12, 22, 0), (40, .iload_n 2, 0, 0, 0), (41, .iaload, 0, 0, 0), (42, .iaload, 0, 0, 0), (43, .invokevirtual 217, 146, 0, 5), (46, .ifCond .eq 7, 0, 0, 0), (49, .iload_n 2, 0, 0, 0), (50, .goto 4, 0, 0, 0), (53, .iload_n 1, 0, 0, 0), (54, .istore_n 1, 0, 0, 0), (55, .iinc 2 1, 0, 0, 0), (58, .goto (-54), 0, 0, 0), (61, .iload_n 1, 0, 0, 0), (62, .ireturn, 0, 0, 0)]
def zc_168 : List zE := [(0, .iconst 0, 0, 0, 0), (1, .istore_n 2, 0, 0, 0), (2, .aload_n 0, 0, 0, 0), (3, .getfield 73, 12, 23, 0), (6, .iload_n 2, 0, 0, 0), (7, .baload, 0, 0, 0), (8, .ifCond .eq 9, 0, 0, 0), (11, .iinc 2 1, 0, 0, 0), (14, .goto (-12), 0, 0, 0), (17, .aload_n 0, 0, 0, 0), (18, .getfield 73, 12, 23, 0), (21, .iload_n 2, 0, 0, 0), (22, .iconst 1, 0, 0, 0), (23, .bastore, 0, 0, 0), (24, .iconst 0, 0, 0, 0), (25, .istore_n 3, 0, 0, 0), (26, .iload_n 3, 0, 0, 0), (27, .aload_n 0, 0, 0, 0), (28, .getfield 187, 12, 43, 0), (31, .if_icmp .ge 27, 0, 0, 0), (34, .aload_n 0, 0, 0, 0), (35, .getfield 77, 12, 24, 0), (38, .sipush 425, 0, 0, 0), (41, .iload_n 2, 0, 0, 0), (42, .imul, 0, 0, 0), (43, .iload_n 3, 0, 0, 0), (44, .iadd, 0, 0, 0), (45, .aload_n 0, 0, 0, 0), (46, .getfield 116, 12, 42, 0), (49, .iload_n 3, 0, 0, 0), (50, .iaload, 0, 0, 0), (51, .iastore, 0, 0, 0), (52, .iinc 3 1, 0, 0, 0), (55, .goto (-29), 0, 0, 0), (58, .aload_n 0, 0, 0, 0), (59, .getfield 80, 12, 25, 0), (62, .iload_n 2, 0, 0, 0), (63, .aload_n 0, 0, 0, 0), (64, .getfield 187, 12, 43, 0), (67, .iastore, 0, 0, 0), (68, .aload_n 0, 0, 0, 0), (69, .getfield 83, 12, 26, 0), (72, .iload_n 2, 0, 0, 0), (73, .bipush 16, 0, 0, 0), (75, .iastore, 0, 0, 0), (76, .aload_n 0, 0, 0, 0), (77, .getfield 86, 12, 27, 0), (80, .iload_n 2, 0, 0, 0), (81, .aload_n 0, 0, 0, 0), (82, .getfield 228, 12, 49, 0), (85, .iastore, 0, 0, 0), (86, .aload_n 0, 0, 0, 0), (87, .getfield 89, 12, 28, 0), (90, .iload_n 2, 0, 0, 0), (91, .iconst 0, 0, 0, 0), (92, .iastore, 0, 0, 0), (93, .aload_n 0, 0, 0, 0), (94, .getfield 92, 12, 29, 0), (97, .iload_n 2, 0, 0, 0), (98, .aload_n 0, 0, 0, 0), (99, .getfield 45, 12, 13, 0), (102, .iload_n 1, 0, 0, 0), (103, .iaload, 0, 0, 0), (104, .iastore, 0, 0, 0), (105, .iconst 0, 0, 0, 0), (106, .istore_n 3, 0, 0, 0), (107, .iload_n 3, 0, 0, 0), (108, .iconst 3, 0, 0, 0), (109, .if_icmp .ge 103, 0, 0, 0), (112, .aload_n 0, 0, 0, 0), (113, .getfield 95, 12, 30, 0), (116, .iconst 3, 0, 0, 0), (117, .iload_n 2, 0, 0, 0), (118, .imul, 0, 0, 0), (119, .iload_n 3, 0, 0, 0), (120, .iadd, 0, 0, 0), (121, .aload_n 0, 0, 0, 0), (122, .getfield 128, 12, 50, 0), (125, .iload_n 3, 0, 0, 0), (126, .iaload, 0, 0, 0), (127, .iastore, 0, 0, 0), (128, .iconst 0, 0, 0, 0), (129, .istore 4, 0, 0, 0), (131, .iload 4, 0, 0, 0), (133, .aload_n 0, 0, 0, 0), (134, .getfield 128, 12, 50, 0), (137, .iload_n 3, 0, 0, 0), (138, .iaload, 0, 0, 0), (139, .if_icmp .ge 39, 0, 0, 0), (142, .aload_n 0, 0, 0, 0), (143, .getfield 98, 12, 31, 0), (146, .sipush 192, 0, 0, 0), (149, .iload_n 2, 0, 0, 0), (150, .imul, 0, 0, 0), (151, .bipush 64, 0, 0, 0), (153, .iload_n 3, 0, 0, 0), (154, .imul, 0, 0, 0), (155, .iadd, 0, 0, 0), (156, .iload 4, 0, 0, 0), (158, .iadd, 0, 0, 0), (159, .aload_n 0, 0, 0, 0), (160, .getfield 131, 12, 51, 0), (163, .bipush 64, 0, 0, 0), (165, .iload_n 3, 0, 0, 0), (166, .imul, 0, 0, 0), (167, .iload 4, 0, 0, 0), (169, .iadd, 0, 0, 0), (170, .iaload, 0, 0, 0), (171, .iastore, 0, 0, 0), (172, .iinc 4 1, 0, 0, 0), (175, .goto (-44), 0, 0, 0), (178, .aload_n 0, 0, 0, 0), (179, .getfield 83, 12, 26, 0), (182, .iload_n 2, 0, 0, 0), (183, .dup2, 0, 0, 0), (184, .iaload, 0, 0, 0), (185, .aload_n 0, 0, 0, 0), (186, .getfield 128, 12, 50, 0), (189, .iload_n 3, 0, 0, 0), (190, .iaload, 0, 0, 0), (191, .ifCond .le 12, 0, 0, 0), (194, .aload_n 0, 0, 0, 0), (195, .getfield 128, 12, 50, 0), (198, .iload_n 3, 0, 0, 0), (199, .iaload, 0, 0, 0), (200, .goto 4, 0, 0, 0), (203, .iconst 0, 0, 0, 0), (204, .iadd, 0, 0, 0), (205, .iastore, 0, 0, 0), (206, .iinc 3 1, 0, 0, 0), (209, .goto (-102), 0, 0, 0), (212, .aload_n 0, 0, 0, 0), (213, .getfield 70, 12, 22, 0), (216, .aload_n 0, 0, 0, 0), (217, .getfield 268, 12, 21, 0), (220, .iload_n 2, 0, 0, 0), (221, .iastore, 0, 0, 0), (222, .aload_n 0, 0, 0, 0), (223, .dup, 0, 0, 0), (224, .getfield 268, 12, 21, 0), (227, .iconst 1, 0, 0, 0), (228, .iadd, 0, 0, 0), (229, .putfield 268, 12, 21, 0), (232, .aload_n 0, 0, 0, 0), (233, .aload_n 0, 0, 0, 0), (234, .getfield 67, 12, 20, 0), (237, .invokevirtual 280, 166, 0, 1), (240, .pop, 0, 0, 0), (241, .return_, 0, 0, 0)]
def zc_169 : List zE := [(0, .aload_n 0, 0, 0, 0), (1, .getfield 70, 12, 22, 0), (4, .iload_n 1, 0, 0, 0), (5, .iaload, 0, 0, 0), (6, .istore_n 2, 0, 0, 0), (7, .aload_n 0, 0, 0, 0), (8, .iload_n 1, 0, 0, 0), (9, .invokevirtual 274, 165, 0, 1), (12, .aload_n 0, 0, 0, 0), (13, .getfield 70, 12, 22, 0), (16, .aload_n 0, 0, 0, 0), (17, .getfield 268, 12, 21, 0), (20, .iload_n 2, 0, 0, 0), (21, .iastore, 0, 0, 0), (22, .aload_n 0, 0, 0, 0), (23, .dup, 0, 0, 0), (24, .getfield 268, 12, 21, 0), (27, .iconst 1, 0, 0, 0), (28, .iadd, 0, 0, 0), (29, .putfield 268, 12, 21, 0), (32, .aload_n 0, 0, 0, 0), (33, .getfield 89, 12, 28, 0), (36, .iload_n 2, 0, 0, 0), (37, .dup2, 0, 0, 0), (38, .iaload, 0, 0, 0), (39, .iconst 1, 0, 0, 0), (40, .iadd, 0, 0, 0), (41, .iastore, 0, 0, 0), (42, .aload_n 0, 0, 0, 0), (43, .aload_n 0, 0, 0, 0), (44, .getfield 86, 12, 27, 0), (47, .iload_n 2, 0, 0, 0), (48, .iaload, 0, 0, 0), (49, .putfield 228, 12, 49, 0), (52, .iconst 0, 0, 0, 0), (53, .istore_n 3, 0, 0, 0), (54, .iload_n 3, 0, 0, 0), (55, .iconst 3, 0, 0, 0), (56, .if_icmp .ge 75, 0, 0, 0), (59, .aload_n 0, 0, 0, 0), (60, .getfield 128, 12, 50, 0), (63, .iload_n 3, 0, 0, 0), (64, .aload_n 0, 0, 0, 0), (65, .getfield 95, 12, 30, 0), (68, .iconst 3, 0, 0, 0), (69, .iload_n 2, 0, 0, 0), (70, .imul, 0, 0, 0), (71, .iload_n 3, 0, 0, 0), (72, .iadd, 0, 0, 0), (73, .iaload, 0, 0, 0), (74, .iastore, 0, 0, 0), (75, .iconst 0, 0, 0, 0), (76, .istore 4, 0, 0, 0), (78, .iload 4, 0, 0, 0), (80, .aload_n 0, 0, 0, 0), (81, .getfield 128, 12, 50, 0), (84, .iload_n 3, 0, 0, 0), (85, .iaload, 0, 0, 0), (86, .if_icmp .ge 39, 0, 0, 0), (89, .aload_n 0, 0, 0, 0), (90, .getfield 131, 12, 51, 0), (93, .bipush 64, 0, 0, 0), (95, .iload_n 3, 0, 0, 0), (96, .imul, 0, 0, 0), (97, .iload 4, 0, 0, 0), (99, .iadd, 0, 0, 0), (100, .aload_n 0, 0, 0, 0), (101, .getfield 98, 12, 31, 0), (104, .sipush 192, 0, 0, 0), (107, .iload_n 2, 0, 0, 0), (108, .imul, 0, 0, 0), (109, .bipush 64, 0, 0, 0), (111, .iload_n 3, 0, 0, 0), (112, .imul, 0, 0, 0), (113, .iadd, 0, 0, 0), (114, .iload 4, 0, 0, 0), (116, .iadd, 0, 0, 0), (117, .iaload, 0, 0, 0), (118, .iastore, 0, 0, 0), (119, .iinc 4 1, 0, 0, 0), (122, .goto (-44), 0, 0, 0), (125, .iinc 3 1, 0, 0, 0), (128, .goto (-74), 0, 0, 0), (131, .return_, 0, 0, 0)]
def zc_170 : List zE := [(0, .iconst 0, 0, 0, 0), (1, .istore_n 2, 0, 0, 0), (2, .iload_n 2, 0, 0, 0), (3, .aload_n 0, 0, 0, 0), (4, .getfield 144, 12, 9, 0), (7, .if_icmp .ge 32, 0, 0, 0), (10, .aload_n 0, 0, 0, 0), (11, .getfield 134, 12, 52, 0), (14, .iload_n 2, 0, 0, 0), (15, .iload_n 1, 0, 0, 0), (16, .iconst (-1), 0, 0, 0), (17, .if_icmp .ne 7, 0, 0, 0), (20, .iconst 1, 0, 0, 0), (21, .goto 4, 0, 0, 0), (24, .iconst 0, 0, 0, 0), (25, .bastore, 0, 0, 0), (26, .aload_n 0, 0, 0, 0), (27, .getfield 137, 12, 53, 0), (30, .iload_n 2, 0, 0, 0), (31, .iconst 0, 0, 0, 0), (32, .bastore, 0, 0, 0), (33, .iinc 2 1, 0, 0, 0), (36, .goto (-34), 0, 0, 0), (39, .iconst 1, 0, 0, 0), (40, .istore_n 2, 0, 0, 0), (41, .iload_n 2, 0, 0, 0), (42, .aload_n 0, 0, 0, 0), (43, .getfield 7, 12, 0, 0), (46, .if_icmp .ge 108, 0, 0, 0), (49, .iload_n 1, 0, 0, 0), (50, .iconst (-1), 0, 0, 0), (51, .if_icmp .eq 103, 0, 0, 0), (54, .aload_n 0, 0, 0, 0), (55, .getfield 24, 12, 4, 0), (58, .iload_n 2, 0, 0, 0), (59, .iaload, 0, 0, 0), (60, .iconst (-1), 0, 0, 0), (61, .if_icmp .eq 87, 0, 0, 0), (64, .iload_n 2, 0, 0, 0), (65, .iload_n 1, 0, 0, 0), (66, .if_icmp .eq 13, 0, 0, 0), (69, .aload_n 0, 0, 0, 0), (70, .getfield 13, 12, 1, 0), (73, .iload_n 2, 0, 0, 0), (74, .iaload, 0, 0, 0), (75, .iload_n 1, 0, 0, 0), (76, .if_icmp .ne 72, 0, 0, 0), (79, .aload_n 0, 0, 0, 0), (80, .getfield 24, 12, 4, 0), (83, .iload_n 2, 0, 0, 0), (84, .iaload, 0, 0, 0), (85, .istore_n 3, 0, 0, 0), (86, .aload_n 0, 0, 0, 0), (87, .iload_n 3, 0, 0, 0), (88, .invokevirtual 173, 130, 0, 1), (91, .aload_n 0, 0, 0, 0), (92, .getfield 134, 12, 52, 0), (95, .iload_n 3, 0, 0, 0), (96, .iconst 1, 0, 0, 0), (97, .bastore, 0, 0, 0), (98, .iconst 0, 0, 0, 0), (99, .istore 4, 0, 0, 0), (101, .iload 4, 0, 0, 0), (103, .aload_n 0, 0, 0, 0), (104, .getfield 144, 12, 9, 0), (107, .if_icmp .ge 41, 0, 0, 0), (110, .aload_n 0, 0, 0, 0), (111, .getfield 134, 12, 52, 0), (114, .iload 4, 0, 0, 0), (116, .aload_n 0, 0, 0, 0), (117, .getfield 134, 12, 52, 0), (120, .iload 4, 0, 0, 0), (122, .baload, 0, 0, 0), (123, .ifCond .ne 13, 0, 0, 0), (126, .aload_n 0, 0, 0, 0), (127, .getfield 113, 12, 41, 0), (130, .iload 4, 0, 0, 0), (132, .baload, 0, 0, 0), (133, .ifCond .eq 7, 0, 0, 0), (136, .iconst 1, 0, 0, 0), (137, .goto 4, 0, 0, 0), (140, .iconst 0, 0, 0, 0), (141, .bastore, 0, 0, 0), (142, .iinc 4 1, 0, 0, 0), (145, .goto (-44), 0, 0, 0), (148, .iinc 2 1, 0, 0, 0), (151, .goto (-110), 0, 0, 0), (154, .return_, 0, 0, 0)]
def zc_171 : List zE := [(0, .iconst 0, 0, 0, 0), (1, .istore_n 1, 0, 0, 0), (2, .iload_n 1, 0, 0, 0), (3, .aload_n 0, 0, 0, 0), (4, .getfield 144, 12, 9, 0), (7, .if_icmp .ge 92, 0, 0, 0), (10, .aload_n 0, 0, 0, 0), (11, .getfield 134, 12, 52, 0), (14, .iload_n 1, 0, 0, 0), (15, .baload, 0, 0, 0), (16, .ifCond .eq 16, 0, 0, 0), (19, .aload_n 0, 0, 0, 0), (20, .getfield 137, 12, 53, 0), (23, .iload_n 1, 0, 0, 0), (24, .baload, 0, 0, 0), (25, .ifCond .ne 7, 0, 0, 0), (28, .iconst 1, 0, 0, 0), (29, .goto 4, 0, 0, 0), (32, .iconst 0, 0, 0, 0), (33, .istore_n 2, 0, 0, 0), (34, .iconst 0, 0, 0, 0), (35, .istore_n 3, 0, 0, 0), (36, .iload_n 3, 0, 0, 0), (37, .aload_n 0, 0, 0, 0), (38, .getfield 144, 12, 9, 0), (41, .if_icmp .ge 46, 0, 0, 0), (44, .iload_n 2, 0, 0, 0), (45, .ifCond .eq 42, 0, 0, 0), (48, .aload_n 0, 0, 0, 0), (49, .getfield 134, 12, 52, 0), (52, .iload_n 3, 0, 0, 0), (53, .baload, 0, 0, 0), (54, .ifCond .eq 21, 0, 0, 0), (57, .aload_n 0, 0, 0, 0), (58, .getfield 137, 12, 53, 0), (61, .iload_n 3, 0, 0, 0), (62, .baload, 0, 0, 0), (63, .ifCond .ne 12, 0, 0, 0), (66, .aload_n 0, 0, 0, 0), (67, .iload_n 1, 0, 0, 0), (68, .iload_n 3, 0, 0, 0), (69, .invokevirtual 170, 129, 0, 2), (72, .ifCond .ne 7, 0, 0, 0), (75, .iconst 1, 0, 0, 0), (76, .goto 4, 0, 0, 0), (79, .iconst 0, 0, 0, 0), (80, .istore_n 2, 0, 0, 0), (81, .iinc 3 1, 0, 0, 0), (84, .goto (-48), 0, 0, 0), (87, .iload_n 2, 0, 0, 0), (88, .ifCond .eq 5, 0, 0, 0), (91, .iload_n 1, 0, 0, 0), (92, .ireturn, 0, 0, 0), (93, .iinc 1 1, 0, 0, 0), (96, .goto (-94), 0, 0, 0), (99, .iconst (-1), 0, 0, 0), (100, .ireturn, 0, 0, 0)]
def zc_172 : List zE := [(0, .aload_n 0, 0, 0, 0), (1, .getfield 284, 12, 32, 0), (4, .istore_n 3, 0, 0, 0), (5, .aload_n 0, 0, 0, 0), (6, .dup, 0, 0, 0), (7, .getfield 284, 12, 32, 0), (10, .iconst 1, 0, 0, 0), (11, .iadd, 0, 0, 0), (12, .putfield 284, 12, 32, 0), (15, .aload_n 0, 0, 0, 0), (16, .getfield 101, 12, 33, 0), (19, .iload_n 3, 0, 0, 0), (20, .iload_n 2, 0, 0, 0), (21, .iastore, 0, 0, 0), (22, .aload_n 0, 0, 0, 0), (23, .getfield 110, 12, 36, 0), (26, .iload_n 3, 0, 0, 0), (27, .aload_n 0, 0, 0, 0), (28, .iload_n 1, 0, 0, 0), (29, .iload_n 2, 0, 0, 0), (30, .invokevirtual 221, 147, 0, 2), (33, .iastore, 0, 0, 0), (34, .aload_n 0, 0, 0, 0), (35, .iload_n 1, 0, 0, 0), (36, .iload_n 2, 0, 0, 0), (37, .invokevirtual 287, 149, 0, 2), (40, .aload_n 0, 0, 0, 0), (41, .invokevirtual 290, 167, 0, 0), (44, .istore 4, 0, 0, 0), (46, .aload_n 0, 0, 0, 0), (47, .getfield 104, 12, 34, 0), (50, .iload_n 3, 0, 0, 0), (51, .iload 4, 0, 0, 0), (53, .iconst (-1), 0, 0, 0), (54, .if_icmp .ne 7, 0, 0, 0), (57, .iconst 1, 0, 0, 0), (58, .goto 4, 0, 0, 0), (61, .iconst 0, 0, 0, 0), (62, .iastore, 0, 0, 0), (63, .iload 4, 0, 0, 0), (65, .iconst (-1), 0, 0, 0), (66, .if_icmp .ne 27, 0, 0, 0), (69, .aload_n 0, 0, 0, 0), (70, .iload_n 1, 0, 0, 0), (71, .iload_n 2, 0, 0, 0), (72, .invokevirtual 293, 162, 0, 2), (75, .aload_n 0, 0, 0, 0), (76, .iload_n 2, 0, 0, 0), (77, .invokevirtual 296, 168, 0, 1), (80, .aload_n 0, 0, 0, 0), (81, .dup, 0, 0, 0), (82, .getfield 299, 12, 37, 0), (85, .iconst 1, 0, 0, 0), (86, .iadd, 0, 0, 0), (87, .putfield 299, 12, 37, 0), (90, .goto 19, 0, 0, 0), (93, .aload_n 0, 0, 0, 0), (94, .iload 4, 0, 0, 0), (96, .invokevirtual 302, 169, 0, 1), (99, .aload_n 0, 0, 0, 0), (100, .dup, 0, 0, 0), (101, .getfield 305, 12, 38, 0), (104, .iconst 1, 0, 0, 0), (105, .iadd, 0, 0, 0), (106, .putfield 305, 12, 38, 0), (109, .aload_n 0, 0, 0, 0), (110, .getfield 107, 12, 35, 0), (113, .iload_n 3, 0, 0, 0), (114, .aload_n 0, 0, 0, 0), (115, .getfield 228, 12, 49, 0), (118, .iastore, 0, 0, 0), (119, .aload_n 0, 0, 0, 0), (120, .iload_n 1, 0, 0, 0), (121, .iload_n 2, 0, 0, 0), (122, .invokevirtual 308, 163, 0, 2), (125, .aload_n 0, 0, 0, 0), (126, .getfield 137, 12, 53, 0), (129, .iload_n 2, 0, 0, 0), (130, .iconst 1, 0, 0, 0), (131, .bastore, 0, 0, 0), (132, .return_, 0, 0, 0)]
def zc_173 : List zE := [(0, .iload_n 1, 0, 0, 0), (1, .iconst 0, 0, 0, 0), (2, .iconst 1, 0, 0, 0), (3, .invokestatic 140, 113, 1, 3), (6, .ifCond .eq 16, 0, 0, 0), (9, .iload_n 2, 0, 0, 0), (10, .iconst (-1), 0, 0, 0), (11, .if_icmp .eq 14, 0, 0, 0), (14, .aload_n 0, 0, 0, 0), (15, .iload_n 2, 0, 0, 0), (16, .invokevirtual 147, 114, 0, 1), (19, .ifCond .ne 6, 0, 0, 0), (22, .bipush (-2), 0, 0, 0), (24, .ireturn, 0, 0, 0), (25, .aload_n 0, 0, 0, 0), (26, .iconst 0, 0, 0, 0), (27, .putfield 284, 12, 32, 0), (30, .aload_n 0, 0, 0, 0), (31, .dup, 0, 0, 0), (32, .getfield 311, 12, 40, 0), (35, .iconst 1, 0, 0, 0), (36, .iadd, 0, 0, 0), (37, .putfield 311, 12, 40, 0), (40, .aload_n 0, 0, 0, 0), (41, .getfield 299, 12, 37, 0), (44, .istore_n 3, 0, 0, 0), (45, .aload_n 0, 0, 0, 0), (46, .iload_n 2, 0, 0, 0), (47, .invokevirtual 314, 170, 0, 1), (50, .aload_n 0, 0, 0, 0), (51, .invokevirtual 317, 171, 0, 0), (54, .istore 4, 0, 0, 0), (56, .iload 4, 0, 0, 0), (58, .iconst (-1), 0, 0, 0), (59, .if_icmp .eq 19, 0, 0, 0), (62, .aload_n 0, 0, 0, 0), (63, .iload_n 1, 0, 0, 0), (64, .iload 4, 0, 0, 0), (66, .invokevirtual 320, 172, 0, 2), (69, .aload_n 0, 0, 0, 0), (70, .invokevirtual 317, 171, 0, 0), (73, .istore 4, 0, 0, 0), (75, .goto (-19), 0, 0, 0), (78, .aload_n 0, 0, 0, 0), (79, .getfield 299, 12, 37, 0), (82, .iload_n 3, 0, 0, 0), (83, .isub, 0, 0, 0), (84, .ireturn, 0, 0, 0)]
def zc_174 : List zE := [(0, .iload_n 1, 0, 0, 0), (1, .iconst 0, 0, 0, 0), (2, .aload_n 0, 0, 0, 0), (3, .getfield 284, 12, 32, 0), (6, .iconst 1, 0, 0, 0), (7, .isub, 0, 0, 0), (8, .invokestatic 140, 113, 1, 3), (11, .ifCond .eq 12, 0, 0, 0), (14, .iload_n 2, 0, 0, 0), (15, .iconst 0, 0, 0, 0), (16, .iconst 3, 0, 0, 0), (17, .invokestatic 140, 113, 1, 3), (20, .ifCond .ne 6, 0, 0, 0), (23, .bipush (-2), 0, 0, 0), (25, .ireturn, 0, 0, 0), (26, .iload_n 2, 0, 0, 0), (27, .ifCond .ne 12, 0, 0, 0), (30, .aload_n 0, 0, 0, 0), (31, .getfield 101, 12, 33, 0), (34, .iload_n 1, 0, 0, 0), (35, .iaload, 0, 0, 0), (36, .goto 37, 0, 0, 0), (39, .iload_n 2, 0, 0, 0), (40, .iconst 1, 0, 0, 0), (41, .if_icmp .ne 12, 0, 0, 0), (44, .aload_n 0, 0, 0, 0), (45, .getfield 104, 12, 34, 0), (48, .iload_n 1, 0, 0, 0), (49, .iaload, 0, 0, 0), (50, .goto 23, 0, 0, 0), (53, .iload_n 2, 0, 0, 0), (54, .iconst 2, 0, 0, 0), (55, .if_icmp .ne 12, 0, 0, 0), (58, .aload_n 0, 0, 0, 0), (59, .getfield 107, 12, 35, 0), (62, .iload_n 1, 0, 0, 0), (63, .iaload, 0, 0, 0), (64, .goto 9, 0, 0, 0), (67, .aload_n 0, 0, 0, 0), (68, .getfield 110, 12, 36, 0), (71, .iload_n 1, 0, 0, 0), (72, .iaload, 0, 0, 0), (73, .ireturn, 0, 0, 0)]
def zc_175 : List zE := [(0, .iload_n 1, 0, 0, 0), (1, .iconst 0, 0, 0, 0), (2, .iconst 1, 0, 0, 0), (3, .invokestatic 140, 113, 1, 3), (6, .ifCond .ne 6, 0, 0, 0), (9, .bipush (-2), 0, 0, 0), (11, .ireturn, 0, 0, 0), (12, .iconst 1, 0, 0, 0), (13, .istore_n 2, 0, 0, 0), (14, .iload_n 2, 0, 0, 0), (15, .aload_n 0, 0, 0, 0), (16, .getfield 7, 12, 0, 0), (19, .if_icmp .ge 16, 0, 0, 0), (22, .aload_n 0, 0, 0, 0), (23, .iload_n 1, 0, 0, 0), (24, .iconst 2, 0, 0, 0), (25, .iload_n 2, 0, 0, 0), (26, .invokevirtual 166, 124, 0, 3), (29, .iinc 2 1, 0, 0, 0), (32, .goto (-18), 0, 0, 0), (35, .aload_n 0, 0, 0, 0), (36, .iconst (-1), 0, 0, 0), (37, .invokevirtual 314, 170, 0, 1), (40, .aload_n 0, 0, 0, 0), (41, .invokevirtual 317, 171, 0, 0), (44, .istore_n 2, 0, 0, 0), (45, .iload_n 2, 0, 0, 0), (46, .iconst (-1), 0, 0, 0), (47, .if_icmp .eq 30, 0, 0, 0), (50, .aload_n 0, 0, 0, 0), (51, .iconst 2, 0, 0, 0), (52, .iload_n 2, 0, 0, 0), (53, .invokevirtual 293, 162, 0, 2), (56, .aload_n 0, 0, 0, 0), (57, .iconst 2, 0, 0, 0), (58, .iload_n 2, 0, 0, 0), (59, .invokevirtual 308, 163, 0, 2), (62, .aload_n 0, 0, 0, 0), (63, .getfield 137, 12, 53, 0), (66, .iload_n 2, 0, 0, 0), (67, .iconst 1, 0, 0, 0), (68, .bastore, 0, 0, 0), (69, .aload_n 0, 0, 0, 0), (70, .invokevirtual 317, 171, 0, 0), (73, .istore_n 2, 0, 0, 0), (74, .goto (-29), 0, 0, 0), (77, .iconst 1, 0, 0, 0), (78, .istore_n 3, 0, 0, 0), (79, .iconst 1, 0, 0, 0), (80, .istore 4, 0, 0, 0), (82, .iload 4, 0, 0, 0), (84, .aload_n 0, 0, 0, 0), (85, .getfield 7, 12, 0, 0), (88, .if_icmp .ge 30, 0, 0, 0), (91, .iload_n 3, 0, 0, 0), (92, .ifCond .eq 18, 0, 0, 0), (95, .aload_n 0, 0, 0, 0), (96, .iload_n 1, 0, 0, 0), (97, .iconst 2, 0, 0, 0), (98, .iload 4, 0, 0, 0), (100, .invokevirtual 163, 123, 0, 3), (103, .ifCond .eq 7, 0, 0, 0), (106, .iconst 1, 0, 0, 0), (107, .goto 4, 0, 0, 0), (110, .iconst 0, 0, 0, 0), (111, .istore_n 3, 0, 0, 0), (112, .iinc 4 1, 0, 0, 0), (115, .goto (-33), 0, 0, 0), (118, .iload_n 3, 0, 0, 0), (119, .ifCond .eq 7, 0, 0, 0), (122, .iconst 1, 0, 0, 0), (123, .goto 4, 0, 0, 0), (126, .iconst 0, 0, 0, 0), (127, .ireturn, 0, 0, 0)]
def zc_176 : List zE := [(0, .iload_n 1, 0, 0, 0), (1, .iconst 0, 0, 0, 0), (2, .sipush 4000, 0, 0, 0), (5, .invokestatic 140, 113, 1, 3), (8, .ifCond .ne 6, 0, 0, 0), (11, .bipush (-2), 0, 0, 0), (13, .ireturn, 0, 0, 0), (14, .aload_n 0, 0, 0, 0), (15, .iload_n 1, 0, 0, 0), (16, .putfield 67, 12, 20, 0), (19, .aload_n 0, 0, 0, 0), (20, .iload_n 1, 0, 0, 0), (21, .invokevirtual 280, 166, 0, 1), (24, .ireturn, 0, 0, 0)]
def zc_177 : List zE := [(0, .iload_n 1, 0, 0, 0), (1, .iconst 0, 0, 0, 0), (2, .aload_n 0, 0, 0, 0), (3, .getfield 268, 12, 21, 0), (6, .iconst 1, 0, 0, 0), (7, .isub, 0, 0, 0), (8, .invokestatic 140, 113, 1, 3), (11, .ifCond .ne 7, 0, 0, 0), (14, .ldc2_w 323, 0, 0, -9223372036854775808), (17, .lreturn, 0, 0, 0), (18, .aload_n 0, 0, 0, 0), (19, .getfield 70, 12, 22, 0), (22, .iload_n 1, 0, 0, 0), (23, .iaload, 0, 0, 0), (24, .istore_n 3, 0, 0, 0), (25, .iload_n 2, 0, 0, 0), (26, .tableswitch 85 0 4 #[34, 53, 61, 69, 77], 0, 0, 0), (60, .aload_n 0, 0, 0, 0), (61, .getfield 77, 12, 24, 0), (64, .sipush 425, 0, 0, 0), (67, .iload_n 3, 0, 0, 0), (68, .imul, 0, 0, 0), (69, .aload_n 0, 0, 0, 0), (70, .getfield 80, 12, 25, 0), (73, .iload_n 3, 0, 0, 0), (74, .iaload, 0, 0, 0), (75, .invokestatic 213, 144, 1, 3), (78, .lreturn, 0, 0, 0), (79, .aload_n 0, 0, 0, 0), (80, .getfield 83, 12, 26, 0), (83, .iload_n 3, 0, 0, 0), (84, .iaload, 0, 0, 0), (85, .i2l, 0, 0, 0), (86, .lreturn, 0, 0, 0), (87, .aload_n 0, 0, 0, 0), (88, .getfield 86, 12, 27, 0), (91, .iload_n 3, 0, 0, 0), (92, .iaload, 0, 0, 0), (93, .i2l, 0, 0, 0), (94, .lreturn, 0, 0, 0), (95, .aload_n 0, 0, 0, 0), (96, .getfield 89, 12, 28, 0), (99, .iload_n 3, 0, 0, 0), (100, .iaload, 0, 0, 0), (101, .i2l, 0, 0, 0), (102, .lreturn, 0, 0, 0), (103, .aload_n 0, 0, 0, 0), (104, .getfield 92, 12, 29, 0), (107, .iload_n 3, 0, 0, 0), (108, .iaload, 0, 0, 0), (109, .i2l, 0, 0, 0), (110, .lreturn, 0, 0, 0), (111, .ldc2_w 323, 0, 0, -9223372036854775808), (114, .lreturn, 0, 0, 0)]
def zc_178 : List zE := [(0, .aload_n 0, 0, 0, 0), (1, .getfield 268, 12, 21, 0), (4, .istore_n 1, 0, 0, 0), (5, .iconst 0, 0, 0, 0), (6, .istore_n 2, 0, 0, 0), (7, .iload_n 2, 0, 0, 0), (8, .aload_n 0, 0, 0, 0), (9, .getfield 268, 12, 21, 0), (12, .if_icmp .ge 21, 0, 0, 0), (15, .aload_n 0, 0, 0, 0), (16, .getfield 73, 12, 23, 0), (19, .aload_n 0, 0, 0, 0), (20, .getfield 70, 12, 22, 0), (23, .iload_n 2, 0, 0, 0), (24, .iaload, 0, 0, 0), (25, .iconst 0, 0, 0, 0), (26, .bastore, 0, 0, 0), (27, .iinc 2 1, 0, 0, 0), (30, .goto (-23), 0, 0, 0), (33, .aload_n 0, 0, 0, 0), (34, .iconst 0, 0, 0, 0), (35, .putfield 268, 12, 21, 0), (38, .iload_n 1, 0, 0, 0), (39, .ireturn, 0, 0, 0)]
def zc_179 : List zE := [(0, .iload_n 1, 0, 0, 0), (1, .tableswitch 114 0 10 #[59, 64, 69, 74, 79, 84, 89, 94, 99, 104, 109], 0, 0, 0), (60, .aload_n 0, 0, 0, 0), (61, .getfield 7, 12, 0, 0), (64, .ireturn, 0, 0, 0), (65, .aload_n 0, 0, 0, 0), (66, .getfield 144, 12, 9, 0), (69, .ireturn, 0, 0, 0), (70, .aload_n 0, 0, 0, 0), (71, .getfield 151, 12, 8, 0), (74, .ireturn, 0, 0, 0), (75, .aload_n 0, 0, 0, 0), (76, .getfield 268, 12, 21, 0), (79, .ireturn, 0, 0, 0), (80, .aload_n 0, 0, 0, 0), (81, .invokevirtual 271, 164, 0, 0), (84, .ireturn, 0, 0, 0), (85, .aload_n 0, 0, 0, 0), (86, .getfield 67, 12, 20, 0), (89, .ireturn, 0, 0, 0), (90, .aload_n 0, 0, 0, 0), (91, .getfield 284, 12, 32, 0), (94, .ireturn, 0, 0, 0), (95, .aload_n 0, 0, 0, 0), (96, .getfield 299, 12, 37, 0), (99, .ireturn, 0, 0, 0), (100, .aload_n 0, 0, 0, 0), (101, .getfield 305, 12, 38, 0), (104, .ireturn, 0, 0, 0), (105, .aload_n 0, 0, 0, 0), (106, .getfield 277, 12, 39, 0), (109, .ireturn, 0, 0, 0), (110, .aload_n 0, 0, 0, 0), (111, .getfield 311, 12, 40, 0), (114, .ireturn, 0, 0, 0), (115, .bipush (-2), 0, 0, 0), (117, .ireturn, 0, 0, 0)]
def zc_180 : List zE := [(0, .aload_n 0, 0, 0, 0), (1, .iconst 1, 0, 0, 0), (2, .putfield 7, 12, 0, 0), (5, .aload_n 0, 0, 0, 0), (6, .iconst 0, 0, 0, 0), (7, .putfield 151, 12, 8, 0), (10, .aload_n 0, 0, 0, 0), (11, .iconst 0, 0, 0, 0), (12, .putfield 144, 12, 9, 0), (15, .aload_n 0, 0, 0, 0), (16, .sipush 1000, 0, 0, 0), (19, .putfield 67, 12, 20, 0), (22, .aload_n 0, 0, 0, 0), (23, .invokevirtual 325, 178, 0, 0), (26, .pop, 0, 0, 0), (27, .aload_n 0, 0, 0, 0), (28, .iconst 0, 0, 0, 0), (29, .putfield 284, 12, 32, 0), (32, .aload_n 0, 0, 0, 0), (33, .iconst 0, 0, 0, 0), (34, .putfield 299, 12, 37, 0), (37, .aload_n 0, 0, 0, 0), (38, .iconst 0, 0, 0, 0), (39, .putfield 305, 12, 38, 0), (42, .aload_n 0, 0, 0, 0), (43, .iconst 0, 0, 0, 0), (44, .putfield 277, 12, 39, 0), (47, .aload_n 0, 0, 0, 0), (48, .iconst 0, 0, 0, 0), (49, .putfield 311, 12, 40, 0), (52, .iconst 1, 0, 0, 0), (53, .ireturn, 0, 0, 0)]
def zc_181 : List zE := [(0, .lload_n 0, 0, 0, 0), (1, .lload_n 0, 0, 0, 0), (2, .iconst 1, 0, 0, 0), (3, .lushr, 0, 0, 0), (4, .ldc2_w 314, 0, 0, 6148914691236517205), (7, .land, 0, 0, 0), (8, .lsub, 0, 0, 0), (9, .lstore_n 0, 0, 0, 0), (10, .lload_n 0, 0, 0, 0), (11, .ldc2_w 316, 0, 0, 3689348814741910323), (14, .land, 0, 0, 0), (15, .lload_n 0, 0, 0, 0), (16, .iconst 2, 0, 0, 0), (17, .lushr, 0, 0, 0), (18, .ldc2_w 316, 0, 0, 3689348814741910323), (21, .land, 0, 0, 0), (22, .ladd, 0, 0, 0), (23, .lstore_n 0, 0, 0, 0), (24, .lload_n 0, 0, 0, 0), (25, .lload_n 0, 0, 0, 0), (26, .iconst 4, 0, 0, 0), (27, .lushr, 0, 0, 0), (28, .ladd, 0, 0, 0), (29, .ldc2_w 318, 0, 0, 1085102592571150095), (32, .land, 0, 0, 0), (33, .lstore_n 0, 0, 0, 0), (34, .lload_n 0, 0, 0, 0), (35, .lload_n 0, 0, 0, 0), (36, .bipush 8, 0, 0, 0), (38, .lushr, 0, 0, 0), (39, .ladd, 0, 0, 0), (40, .lstore_n 0, 0, 0, 0), (41, .lload_n 0, 0, 0, 0), (42, .lload_n 0, 0, 0, 0), (43, .bipush 16, 0, 0, 0), (45, .lushr, 0, 0, 0), (46, .ladd, 0, 0, 0), (47, .lstore_n 0, 0, 0, 0), (48, .lload_n 0, 0, 0, 0), (49, .lload_n 0, 0, 0, 0), (50, .bipush 32, 0, 0, 0), (52, .lushr, 0, 0, 0), (53, .ladd, 0, 0, 0), (54, .lstore_n 0, 0, 0, 0), (55, .lload_n 0, 0, 0, 0), (56, .l2i, 0, 0, 0), (57, .bipush 127, 0, 0, 0), (59, .iand, 0, 0, 0), (60, .ireturn, 0, 0, 0)]
def zc_182 : List zE := [(0, .aload_n 0, 0, 0, 0), (1, .invokespecial 1, 0, 5, 0), (4, .return_, 0, 0, 0)]
def zc_183 : List zE := [(0, .aload_n 0, 0, 0, 0), (1, .invokespecial 1, 182, 2, 0), (4, .aload_n 0, 0, 0, 0), (5, .iconst 0, 0, 0, 0), (6, .putfield 7, 13, 0, 0), (9, .return_, 0, 0, 0)]
def zc_184 : List zE := [(0, .aload_n 0, 0, 0, 0), (1, .invokespecial 1, 183, 2, 0), (4, .aload_n 0, 0, 0, 0), (5, .getstatic 39, 0, 0, 0), (8, .putfield 9, 13, 1, 0), (11, .return_, 0, 0, 0)]
def zc_185 : List zE := [(0, .aload_n 0, 0, 0, 0), (1, .getfield 9, 13, 1, 0), (4, .arraylength, 0, 0, 0), (5, .istore_n 2, 0, 0, 0), (6, .iload_n 2, 0, 0, 0), (7, .ifCond .gt 13, 0, 0, 0), (10, .aload_n 0, 0, 0, 0), (11, .getfield 9, 13, 1, 0), (14, .getstatic 39, 0, 0, 0), (17, .if_acmp .eq 28, 0, 0, 0), (20, .iload_n 2, 0, 0, 0), (21, .iload_n 1, 0, 0, 0), (22, .iload_n 2, 0, 0, 0), (23, .isub, 0, 0, 0), (24, .iload_n 2, 0, 0, 0), (25, .iconst 1, 0, 0, 0), (26, .ishr, 0, 0, 0), (27, .invokestatic 73, 201, 1, 3), (30, .istore_n 3, 0, 0, 0), (31, .aload_n 0, 0, 0, 0), (32, .aload_n 0, 0, 0, 0), (33, .getfield 9, 13, 1, 0), (36, .iload_n 3, 0, 0, 0), (37, .invokestatic 66, 198, 1, 2), (40, .dup_x1, 0, 0, 0), (41, .putfield 9, 13, 1, 0), (44, .areturn, 0, 0, 0), (45, .aload_n 0, 0, 0, 0), (46, .bipush 10, 0, 0, 0), (48, .iload_n 1, 0, 0, 0), (49, .invokestatic 79, 0, 8, 2), (52, .anewarray 7, 11, 0, 0), (55, .dup_x1, 0, 0, 0), (56, .putfield 9, 13, 1, 0), (59, .areturn, 0, 0, 0)]
def zc_186 : List zE := [(0, .aload_n 0, 0, 0, 0), (1, .aload_n 0, 0, 0, 0), (2, .getfield 48, 13, 2, 0), (5, .iconst 1, 0, 0, 0), (6, .iadd, 0, 0, 0), (7, .invokevirtual 69, 185, 0, 1), (10, .areturn, 0, 0, 0)]
def zc_187 : List zE := [(0, .aload_n 0, 0, 0, 0), (1, .getfield 48, 13, 2, 0), (4, .ireturn, 0, 0, 0)]
def zc_188 : List zE := [(0, .aload_n 0, 0, 0, 0), (1, .getfield 48, 13, 2, 0), (4, .ifCond .ne 7, 0, 0, 0), (7, .iconst 1, 0, 0, 0), (8, .goto 4, 0, 0, 0), (11, .iconst 0, 0, 0, 0), (12, .ireturn, 0, 0, 0)]
def zc_189 : List zE := [(0, .aload_n 0, 0, 0, 0), (1, .getfield 9, 13, 1, 0), (4, .iload_n 1, 0, 0, 0), (5, .aaload, 0, 0, 0), (6, .areturn, 0, 0, 0)]
def zc_190 : List zE := [(0, .iload_n 1, 0, 0, 0), (1, .aload_n 0, 0, 0, 0), (2, .getfield 48, 13, 2, 0), (5, .invokestatic 118, 200, 1, 2), (8, .pop, 0, 0, 0), (9, .aload_n 0, 0, 0, 0), (10, .iload_n 1, 0, 0, 0), (11, .invokevirtual 123, 189, 0, 1), (14, .areturn, 0, 0, 0)]
def zc_191 : List zE := [(0, .iload_n 3, 0, 0, 0), (1, .aload_n 2, 0, 0, 0), (2, .arraylength, 0, 0, 0), (3, .if_icmp .ne 8, 0, 0, 0), (6, .aload_n 0, 0, 0, 0), (7, .invokevirtual 129, 186, 0, 0), (10, .astore_n 2, 0, 0, 0), (11, .aload_n 2, 0, 0, 0), (12, .iload_n 3, 0, 0, 0), (13, .aload_n 1, 0, 0, 0), (14, .aastore, 0, 0, 0), (15, .aload_n 0, 0, 0, 0), (16, .iload_n 3, 0, 0, 0), (17, .iconst 1, 0, 0, 0), (18, .iadd, 0, 0, 0), (19, .putfield 48, 13, 2, 0), (22, .return_, 0, 0, 0)]
def zc_192 : List zE := [(0, .aload_n 0, 0, 0, 0), (1, .dup, 0, 0, 0), (2, .getfield 63, 13, 0, 0), (5, .iconst 1, 0, 0, 0), (6, .iadd, 0, 0, 0), (7, .putfield 63, 13, 0, 0), (10, .aload_n 0, 0, 0, 0), (11, .aload_n 1, 0, 0, 0), (12, .aload_n 0, 0, 0, 0), (13, .getfield 9, 13, 1, 0), (16, .aload_n 0, 0, 0, 0), (17, .getfield 48, 13, 2, 0), (20, .invokevirtual 131, 191, 0, 3), (23, .iconst 1, 0, 0, 0), (24, .ireturn, 0, 0, 0)]
def zc_193 : List zE := [(0, .aload_n 0, 0, 0, 0), (1, .iload_n 1, 0, 0, 0), (2, .invokevirtual 135, 197, 0, 1), (5, .aload_n 0, 0, 0, 0), (6, .dup, 0, 0, 0), (7, .getfield 63, 13, 0, 0), (10, .iconst 1, 0, 0, 0), (11, .iadd, 0, 0, 0), (12, .putfield 63, 13, 0, 0), (15, .aload_n 0, 0, 0, 0), (16, .getfield 48, 13, 2, 0), (19, .dup, 0, 0, 0), (20, .istore_n 3, 0, 0, 0), (21, .aload_n 0, 0, 0, 0), (22, .getfield 9, 13, 1, 0), (25, .dup, 0, 0, 0), (26, .astore 4, 0, 0, 0), (28, .arraylength, 0, 0, 0), (29, .if_icmp .ne 9, 0, 0, 0), (32, .aload_n 0, 0, 0, 0), (33, .invokevirtual 129, 186, 0, 0), (36, .astore 4, 0, 0, 0), (38, .aload 4, 0, 0, 0), (40, .iload_n 1, 0, 0, 0), (41, .aload 4, 0, 0, 0), (43, .iload_n 1, 0, 0, 0), (44, .iconst 1, 0, 0, 0), (45, .iadd, 0, 0, 0), (46, .iload_n 3, 0, 0, 0), (47, .iload_n 1, 0, 0, 0), (48, .isub, 0, 0, 0), (49, .invokestatic 112, 0, 6, 5), (52, .aload 4, 0, 0, 0), (54, .iload_n 1, 0, 0, 0), (55, .aload_n 2, 0, 0, 0), (56, .aastore, 0, 0, 0), (57, .aload_n 0, 0, 0, 0), (58, .iload_n 3, 0, 0, 0), (59, .iconst 1, 0, 0, 0), (60, .iadd, 0, 0, 0), (61, .putfield 48, 13, 2, 0), (64, .return_, 0, 0, 0)]
def zc_194 : List zE := [(0, .iload_n 1, 0, 0, 0), (1, .aload_n 0, 0, 0, 0), (2, .getfield 48, 13, 2, 0), (5, .invokestatic 118, 200, 1, 2), (8, .pop, 0, 0, 0), (9, .aload_n 0, 0, 0, 0), (10, .getfield 9, 13, 1, 0), (13, .astore_n 2, 0, 0, 0), (14, .aload_n 2, 0, 0, 0), (15, .iload_n 1, 0, 0, 0), (16, .aaload, 0, 0, 0), (17, .astore_n 3, 0, 0, 0), (18, .aload_n 0, 0, 0, 0), (19, .aload_n 2, 0, 0, 0), (20, .iload_n 1, 0, 0, 0), (21, .invokevirtual 144, 195, 0, 2), (24, .aload_n 3, 0, 0, 0), (25, .areturn, 0, 0, 0)]
def zc_195 : List zE := [(0, .aload_n 0, 0, 0, 0), (1, .dup, 0, 0, 0), (2, .getfield 63, 13, 0, 0), (5, .iconst 1, 0, 0, 0), (6, .iadd, 0, 0, 0), (7, .putfield 63, 13, 0, 0), (10, .aload_n 0, 0, 0, 0), (11, .getfield 48, 13, 2, 0), (14, .iconst 1, 0, 0, 0), (15, .isub, 0, 0, 0), (16, .dup, 0, 0, 0), (17, .istore_n 3, 0, 0, 0), (18, .iload_n 2, 0, 0, 0), (19, .if_icmp .le 15, 0, 0, 0), (22, .aload_n 1, 0, 0, 0), (23, .iload_n 2, 0, 0, 0), (24, .iconst 1, 0, 0, 0), (25, .iadd, 0, 0, 0), (26, .aload_n 1, 0, 0, 0), (27, .iload_n 2, 0, 0, 0), (28, .iload_n 3, 0, 0, 0), (29, .iload_n 2, 0, 0, 0), (30, .isub, 0, 0, 0), (31, .invokestatic 112, 0, 6, 5), (34, .aload_n 1, 0, 0, 0), (35, .aload_n 0, 0, 0, 0), (36, .iload_n 3, 0, 0, 0), (37, .dup_x1, 0, 0, 0), (38, .putfield 48, 13, 2, 0), (41, .aconst_null, 0, 0, 0), (42, .aastore, 0, 0, 0), (43, .return_, 0, 0, 0)]
def zc_196 : List zE := [(0, .aload_n 0, 0, 0, 0), (1, .dup, 0, 0, 0), (2, .getfield 63, 13, 0, 0), (5, .iconst 1, 0, 0, 0), (6, .iadd, 0, 0, 0), (7, .putfield 63, 13, 0, 0), (10, .aload_n 0, 0, 0, 0), (11, .getfield 9, 13, 1, 0), (14, .astore_n 1, 0, 0, 0), (15, .aload_n 0, 0, 0, 0), (16, .getfield 48, 13, 2, 0), (19, .istore_n 2, 0, 0, 0), (20, .aload_n 0, 0, 0, 0), (21, .iconst 0, 0, 0, 0), (22, .dup_x1, 0, 0, 0), (23, .putfield 48, 13, 2, 0), (26, .istore_n 3, 0, 0, 0), (27, .iload_n 3, 0, 0, 0), (28, .iload_n 2, 0, 0, 0), (29, .if_icmp .ge 13, 0, 0, 0), (32, .aload_n 1, 0, 0, 0), (33, .iload_n 3, 0, 0, 0), (34, .aconst_null, 0, 0, 0), (35, .aastore, 0, 0, 0), (36, .iinc 3 1, 0, 0, 0), (39, .goto (-12), 0, 0, 0), (42, .return_, 0, 0, 0)]
def zc_197 : List zE := [(0, .iload_n 1, 0, 0, 0), (1, .aload_n 0, 0, 0, 0), (2, .getfield 48, 13, 2, 0), (5, .if_icmp .gt 7, 0, 0, 0), (8, .iload_n 1, 0, 0, 0), (9, .ifCond .ge 16, 0, 0, 0), (15, .dup, 0, 0, 0), (16, .aload_n 0, 0, 0, 0), (17, .iload_n 1, 0, 0, 0), (25, .return_, 0, 0, 0)]
def zc_198 : List zE := [(0, .aload_n 0, 0, 0, 0), (1, .iload_n 1, 0, 0, 0), (2, .aload_n 0, 0, 0, 0), (3, .invokevirtual 86, 0, 7, 0), (6, .invokestatic 300, 199, 1, 3), (9, .areturn, 0, 0, 0)]
def zc_199 : List zE := [(0, .aload_n 2, 0, 0, 0), (1, .ldc 110, 1, 0, 0), (3, .if_acmp .ne 10, 0, 0, 0), (6, .iload_n 1, 0, 0, 0), (7, .anewarray 2, 11, 0, 0), (10, .goto 14, 0, 0, 0), (13, .aload_n 2, 0, 0, 0), (17, .iload_n 1, 0, 0, 0), (24, .astore_n 3, 0, 0, 0), (25, .aload_n 0, 0, 0, 0), (26, .iconst 0, 0, 0, 0), (27, .aload_n 3, 0, 0, 0), (28, .iconst 0, 0, 0, 0), (29, .aload_n 0, 0, 0, 0), (30, .arraylength, 0, 0, 0), (31, .iload_n 1, 0, 0, 0), (32, .invokestatic 304, 0, 9, 2), (35, .invokestatic 150, 0, 6, 5), (38, .aload_n 3, 0, 0, 0), (39, .areturn, 0, 0, 0)]
def zc_200 : List zE := [(0, .iload_n 0, 0, 0, 0), (1, .iload_n 1, 0, 0, 0), (2, .aconst_null, 0, 0, 0), (3, .invokestatic 105, 203, 1, 3), (6, .ireturn, 0, 0, 0)]
def zc_201 : List zE := [(0, .iload_n 0, 0, 0, 0), (1, .iload_n 1, 0, 0, 0), (2, .iload_n 2, 0, 0, 0), (3, .invokestatic 194, 0, 8, 2), (6, .iadd, 0, 0, 0), (7, .istore_n 3, 0, 0, 0), (8, .iconst 0, 0, 0, 0), (9, .iload_n 3, 0, 0, 0), (10, .if_icmp .ge 11, 0, 0, 0), (13, .iload_n 3, 0, 0, 0), (14, .ldc 200, 0, 0, 2147483639), (16, .if_icmp .gt 5, 0, 0, 0), (19, .iload_n 3, 0, 0, 0), (20, .ireturn, 0, 0, 0), (21, .iload_n 0, 0, 0, 0), (22, .iload_n 1, 0, 0, 0), (23, .invokestatic 201, 202, 1, 2), (26, .ireturn, 0, 0, 0)]
def zc_202 : List zE := [(0, .iload_n 0, 0, 0, 0), (1, .iload_n 1, 0, 0, 0), (2, .iadd, 0, 0, 0), (3, .istore_n 2, 0, 0, 0), (4, .iload_n 2, 0, 0, 0), (5, .ifCond .ge 44, 0, 0, 0), (11, .dup, 0, 0, 0), (15, .dup, 0, 0, 0), (24, .iload_n 0, 0, 0, 0), (33, .iload_n 1, 0, 0, 0), (49, .iload_n 2, 0, 0, 0), (50, .ldc 200, 0, 0, 2147483639), (52, .if_icmp .gt 6, 0, 0, 0), (55, .ldc 200, 0, 0, 2147483639), (57, .ireturn, 0, 0, 0), (58, .iload_n 2, 0, 0, 0), (59, .ireturn, 0, 0, 0)]
def zc_203 : List zE := [(0, .iload_n 0, 0, 0, 0), (1, .ifCond .lt 8, 0, 0, 0), (4, .iload_n 0, 0, 0, 0), (5, .iload_n 1, 0, 0, 0), (6, .if_icmp .lt 10, 0, 0, 0), (9, .aload_n 2, 0, 0, 0), (10, .iload_n 0, 0, 0, 0), (11, .iload_n 1, 0, 0, 0), (16, .iload_n 0, 0, 0, 0), (17, .ireturn, 0, 0, 0)]
def zc_204_0 : List zE := [(0, .new 7, 11, 0, 0), (3, .dup, 0, 0, 0), (4, .invokespecial 9, 81, 2, 0), (7, .astore_n 1, 0, 0, 0), (8, .new 10, 12, 0, 0), (11, .dup, 0, 0, 0), (12, .invokespecial 12, 112, 2, 0), (15, .astore_n 2, 0, 0, 0), (16, .iconst 0, 0, 0, 0), (17, .istore_n 3, 0, 0, 0), (18, .iload_n 3, 0, 0, 0), (19, .aload_n 0, 0, 0, 0), (20, .arraylength, 0, 0, 0), (21, .iconst 4, 0, 0, 0), (22, .isub, 0, 0, 0), (23, .if_icmp .gt 924, 0, 0, 0), (26, .aload_n 0, 0, 0, 0), (27, .iload_n 3, 0, 0, 0), (28, .iaload, 0, 0, 0), (29, .bipush 31, 0, 0, 0), (31, .iand, 0, 0, 0), (32, .tableswitch 909 0 24 #[116, 175, 208, 271, 304, 337, 360, 393, 436, 449, 482, 515, 558, 581, 614, 647, 680, 713, 746, 780, 803, 826, 860, 873, 896], 0, 0, 0), (148, .aload_n 1, 0, 0, 0), (149, .aload_n 0, 0, 0, 0), (150, .iload_n 3, 0, 0, 0), (151, .iconst 1, 0, 0, 0), (152, .iadd, 0, 0, 0), (153, .iaload, 0, 0, 0), (154, .aload_n 0, 0, 0, 0), (155, .iload_n 3, 0, 0, 0), (156, .iconst 2, 0, 0, 0), (157, .iadd, 0, 0, 0), (158, .iaload, 0, 0, 0), (159, .aload_n 0, 0, 0, 0), (160, .iload_n 3, 0, 0, 0), (161, .iconst 3, 0, 0, 0), (162, .iadd, 0, 0, 0), (163, .iaload, 0, 0, 0), (164, .ifCond .eq 7, 0, 0, 0), (167, .iconst 1, 0, 0, 0), (168, .goto 4, 0, 0, 0), (171, .iconst 0, 0, 0, 0), (172, .invokevirtual 13, 82, 0, 3), (175, .aload_n 2, 0, 0, 0), (176, .aload_n 0, 0, 0, 0), (177, .iload_n 3, 0, 0, 0), (178, .iconst 1, 0, 0, 0), (179, .iadd, 0, 0, 0), (180, .iaload, 0, 0, 0), (181, .aload_n 0, 0, 0, 0), (182, .iload_n 3, 0, 0, 0), (183, .iconst 2, 0, 0, 0), (184, .iadd, 0, 0, 0), (185, .iaload, 0, 0, 0), (186, .aload_n 0, 0, 0, 0), (187, .iload_n 3, 0, 0, 0), (188, .iconst 3, 0, 0, 0), (189, .iadd, 0, 0, 0), (190, .iaload, 0, 0, 0), (191, .ifCond .eq 7, 0, 0, 0)]
def zc_204_1 : List zE := [(194, .iconst 1, 0, 0, 0), (195, .goto 4, 0, 0, 0), (198, .iconst 0, 0, 0, 0), (199, .invokevirtual 17, 116, 0, 3), (202, .if_icmp .eq 739, 0, 0, 0), (205, .iconst 0, 0, 0, 0), (206, .ireturn, 0, 0, 0), (207, .aload_n 1, 0, 0, 0), (208, .aload_n 0, 0, 0, 0), (209, .iload_n 3, 0, 0, 0), (210, .iconst 1, 0, 0, 0), (211, .iadd, 0, 0, 0), (212, .iaload, 0, 0, 0), (213, .aload_n 0, 0, 0, 0), (214, .iload_n 3, 0, 0, 0), (215, .iconst 2, 0, 0, 0), (216, .iadd, 0, 0, 0), (217, .iaload, 0, 0, 0), (218, .invokevirtual 18, 83, 0, 2), (221, .aload_n 2, 0, 0, 0), (222, .aload_n 0, 0, 0, 0), (223, .iload_n 3, 0, 0, 0), (224, .iconst 1, 0, 0, 0), (225, .iadd, 0, 0, 0), (226, .iaload, 0, 0, 0), (227, .aload_n 0, 0, 0, 0), (228, .iload_n 3, 0, 0, 0), (229, .iconst 2, 0, 0, 0), (230, .iadd, 0, 0, 0), (231, .iaload, 0, 0, 0), (232, .invokevirtual 22, 117, 0, 2), (235, .if_icmp .eq 706, 0, 0, 0), (238, .iconst 0, 0, 0, 0), (239, .ireturn, 0, 0, 0), (240, .aload_n 1, 0, 0, 0), (241, .aload_n 0, 0, 0, 0), (242, .iload_n 3, 0, 0, 0), (243, .iconst 1, 0, 0, 0), (244, .iadd, 0, 0, 0), (245, .iaload, 0, 0, 0), (246, .i2l, 0, 0, 0), (247, .bipush 32, 0, 0, 0), (249, .lshl, 0, 0, 0), (250, .aload_n 0, 0, 0, 0), (251, .iload_n 3, 0, 0, 0), (252, .iconst 2, 0, 0, 0), (253, .iadd, 0, 0, 0), (254, .iaload, 0, 0, 0), (255, .i2l, 0, 0, 0), (256, .ldc2_w 23, 0, 0, 4294967295), (259, .land, 0, 0, 0), (260, .lor, 0, 0, 0), (261, .aload_n 0, 0, 0, 0), (262, .iload_n 3, 0, 0, 0), (263, .iconst 3, 0, 0, 0), (264, .iadd, 0, 0, 0), (265, .iaload, 0, 0, 0), (266, .invokevirtual 25, 84, 0, 2), (269, .aload_n 2, 0, 0, 0), (270, .aload_n 0, 0, 0, 0)]
def zc_204_2 : List zE := [(271, .iload_n 3, 0, 0, 0), (272, .iconst 1, 0, 0, 0), (273, .iadd, 0, 0, 0), (274, .iaload, 0, 0, 0), (275, .i2l, 0, 0, 0), (276, .bipush 32, 0, 0, 0), (278, .lshl, 0, 0, 0), (279, .aload_n 0, 0, 0, 0), (280, .iload_n 3, 0, 0, 0), (281, .iconst 2, 0, 0, 0), (282, .iadd, 0, 0, 0), (283, .iaload, 0, 0, 0), (284, .i2l, 0, 0, 0), (285, .ldc2_w 23, 0, 0, 4294967295), (288, .land, 0, 0, 0), (289, .lor, 0, 0, 0), (290, .aload_n 0, 0, 0, 0), (291, .iload_n 3, 0, 0, 0), (292, .iconst 3, 0, 0, 0), (293, .iadd, 0, 0, 0), (294, .iaload, 0, 0, 0), (295, .invokevirtual 29, 118, 0, 2), (298, .if_icmp .eq 643, 0, 0, 0), (301, .iconst 0, 0, 0, 0), (302, .ireturn, 0, 0, 0), (303, .aload_n 1, 0, 0, 0), (304, .aload_n 0, 0, 0, 0), (305, .iload_n 3, 0, 0, 0), (306, .iconst 1, 0, 0, 0), (307, .iadd, 0, 0, 0), (308, .iaload, 0, 0, 0), (309, .aload_n 0, 0, 0, 0), (310, .iload_n 3, 0, 0, 0), (311, .iconst 2, 0, 0, 0), (312, .iadd, 0, 0, 0), (313, .iaload, 0, 0, 0), (314, .invokevirtual 30, 85, 0, 2), (317, .aload_n 2, 0, 0, 0), (318, .aload_n 0, 0, 0, 0), (319, .iload_n 3, 0, 0, 0), (320, .iconst 1, 0, 0, 0), (321, .iadd, 0, 0, 0), (322, .iaload, 0, 0, 0), (323, .aload_n 0, 0, 0, 0), (324, .iload_n 3, 0, 0, 0), (325, .iconst 2, 0, 0, 0), (326, .iadd, 0, 0, 0), (327, .iaload, 0, 0, 0), (328, .invokevirtual 33, 121, 0, 2), (331, .if_icmp .eq 610, 0, 0, 0), (334, .iconst 0, 0, 0, 0), (335, .ireturn, 0, 0, 0), (336, .aload_n 1, 0, 0, 0), (337, .aload_n 0, 0, 0, 0), (338, .iload_n 3, 0, 0, 0), (339, .iconst 1, 0, 0, 0), (340, .iadd, 0, 0, 0), (341, .iaload, 0, 0, 0), (342, .aload_n 0, 0, 0, 0), (343, .iload_n 3, 0, 0, 0)]
def zc_204_3 : List zE := [(344, .iconst 2, 0, 0, 0), (345, .iadd, 0, 0, 0), (346, .iaload, 0, 0, 0), (347, .invokevirtual 34, 86, 0, 2), (350, .aload_n 2, 0, 0, 0), (351, .aload_n 0, 0, 0, 0), (352, .iload_n 3, 0, 0, 0), (353, .iconst 1, 0, 0, 0), (354, .iadd, 0, 0, 0), (355, .iaload, 0, 0, 0), (356, .aload_n 0, 0, 0, 0), (357, .iload_n 3, 0, 0, 0), (358, .iconst 2, 0, 0, 0), (359, .iadd, 0, 0, 0), (360, .iaload, 0, 0, 0), (361, .invokevirtual 37, 122, 0, 2), (364, .if_icmp .eq 577, 0, 0, 0), (367, .iconst 0, 0, 0, 0), (368, .ireturn, 0, 0, 0), (369, .aload_n 1, 0, 0, 0), (370, .aload_n 0, 0, 0, 0), (371, .iload_n 3, 0, 0, 0), (372, .iconst 1, 0, 0, 0), (373, .iadd, 0, 0, 0), (374, .iaload, 0, 0, 0), (375, .invokevirtual 38, 87, 0, 1), (378, .aload_n 2, 0, 0, 0), (379, .aload_n 0, 0, 0, 0), (380, .iload_n 3, 0, 0, 0), (381, .iconst 1, 0, 0, 0), (382, .iadd, 0, 0, 0), (383, .iaload, 0, 0, 0), (384, .invokevirtual 42, 125, 0, 1), (387, .if_icmp .eq 554, 0, 0, 0), (390, .iconst 0, 0, 0, 0), (391, .ireturn, 0, 0, 0), (392, .aload_n 1, 0, 0, 0), (393, .aload_n 0, 0, 0, 0), (394, .iload_n 3, 0, 0, 0), (395, .iconst 1, 0, 0, 0), (396, .iadd, 0, 0, 0), (397, .iaload, 0, 0, 0), (398, .aload_n 0, 0, 0, 0), (399, .iload_n 3, 0, 0, 0), (400, .iconst 2, 0, 0, 0), (401, .iadd, 0, 0, 0), (402, .iaload, 0, 0, 0), (403, .invokevirtual 43, 88, 0, 2), (406, .aload_n 2, 0, 0, 0), (407, .aload_n 0, 0, 0, 0), (408, .iload_n 3, 0, 0, 0), (409, .iconst 1, 0, 0, 0), (410, .iadd, 0, 0, 0), (411, .iaload, 0, 0, 0), (412, .aload_n 0, 0, 0, 0), (413, .iload_n 3, 0, 0, 0), (414, .iconst 2, 0, 0, 0), (415, .iadd, 0, 0, 0), (416, .iaload, 0, 0, 0), (417, .invokevirtual 46, 126, 0, 2)]
def zc_204_4 : List zE := [(420, .if_icmp .eq 521, 0, 0, 0), (423, .iconst 0, 0, 0, 0), (424, .ireturn, 0, 0, 0), (425, .aload_n 1, 0, 0, 0), (426, .aload_n 0, 0, 0, 0), (427, .iload_n 3, 0, 0, 0), (428, .iconst 1, 0, 0, 0), (429, .iadd, 0, 0, 0), (430, .iaload, 0, 0, 0), (431, .aload_n 0, 0, 0, 0), (432, .iload_n 3, 0, 0, 0), (433, .iconst 2, 0, 0, 0), (434, .iadd, 0, 0, 0), (435, .iaload, 0, 0, 0), (436, .aload_n 0, 0, 0, 0), (437, .iload_n 3, 0, 0, 0), (438, .iconst 3, 0, 0, 0), (439, .iadd, 0, 0, 0), (440, .iaload, 0, 0, 0), (441, .invokevirtual 47, 89, 0, 3), (444, .aload_n 2, 0, 0, 0), (445, .aload_n 0, 0, 0, 0), (446, .iload_n 3, 0, 0, 0), (447, .iconst 1, 0, 0, 0), (448, .iadd, 0, 0, 0), (449, .iaload, 0, 0, 0), (450, .aload_n 0, 0, 0, 0), (451, .iload_n 3, 0, 0, 0), (452, .iconst 2, 0, 0, 0), (453, .iadd, 0, 0, 0), (454, .iaload, 0, 0, 0), (455, .aload_n 0, 0, 0, 0), (456, .iload_n 3, 0, 0, 0), (457, .iconst 3, 0, 0, 0), (458, .iadd, 0, 0, 0), (459, .iaload, 0, 0, 0), (460, .invokevirtual 51, 127, 0, 3), (463, .if_icmp .eq 478, 0, 0, 0), (466, .iconst 0, 0, 0, 0), (467, .ireturn, 0, 0, 0), (468, .aload_n 1, 0, 0, 0), (469, .invokevirtual 52, 90, 0, 0), (472, .aload_n 2, 0, 0, 0), (473, .invokevirtual 56, 128, 0, 0), (476, .if_icmp .eq 465, 0, 0, 0), (479, .iconst 0, 0, 0, 0), (480, .ireturn, 0, 0, 0), (481, .aload_n 1, 0, 0, 0), (482, .aload_n 0, 0, 0, 0), (483, .iload_n 3, 0, 0, 0), (484, .iconst 1, 0, 0, 0), (485, .iadd, 0, 0, 0), (486, .iaload, 0, 0, 0), (487, .aload_n 0, 0, 0, 0), (488, .iload_n 3, 0, 0, 0), (489, .iconst 2, 0, 0, 0), (490, .iadd, 0, 0, 0), (491, .iaload, 0, 0, 0), (492, .invokevirtual 57, 91, 0, 2), (495, .aload_n 2, 0, 0, 0)]
def zc_204_5 : List zE := [(496, .aload_n 0, 0, 0, 0), (497, .iload_n 3, 0, 0, 0), (498, .iconst 1, 0, 0, 0), (499, .iadd, 0, 0, 0), (500, .iaload, 0, 0, 0), (501, .aload_n 0, 0, 0, 0), (502, .iload_n 3, 0, 0, 0), (503, .iconst 2, 0, 0, 0), (504, .iadd, 0, 0, 0), (505, .iaload, 0, 0, 0), (506, .invokevirtual 60, 132, 0, 2), (509, .if_icmp .eq 432, 0, 0, 0), (512, .iconst 0, 0, 0, 0), (513, .ireturn, 0, 0, 0), (514, .aload_n 1, 0, 0, 0), (515, .aload_n 0, 0, 0, 0), (516, .iload_n 3, 0, 0, 0), (517, .iconst 1, 0, 0, 0), (518, .iadd, 0, 0, 0), (519, .iaload, 0, 0, 0), (520, .aload_n 0, 0, 0, 0), (521, .iload_n 3, 0, 0, 0), (522, .iconst 2, 0, 0, 0), (523, .iadd, 0, 0, 0), (524, .iaload, 0, 0, 0), (525, .invokevirtual 61, 92, 0, 2), (528, .aload_n 2, 0, 0, 0), (529, .aload_n 0, 0, 0, 0), (530, .iload_n 3, 0, 0, 0), (531, .iconst 1, 0, 0, 0), (532, .iadd, 0, 0, 0), (533, .iaload, 0, 0, 0), (534, .aload_n 0, 0, 0, 0), (535, .iload_n 3, 0, 0, 0), (536, .iconst 2, 0, 0, 0), (537, .iadd, 0, 0, 0), (538, .iaload, 0, 0, 0), (539, .invokevirtual 64, 134, 0, 2), (542, .if_icmp .eq 399, 0, 0, 0), (545, .iconst 0, 0, 0, 0), (546, .ireturn, 0, 0, 0), (547, .aload_n 1, 0, 0, 0), (548, .aload_n 0, 0, 0, 0), (549, .iload_n 3, 0, 0, 0), (550, .iconst 1, 0, 0, 0), (551, .iadd, 0, 0, 0), (552, .iaload, 0, 0, 0), (553, .aload_n 0, 0, 0, 0), (554, .iload_n 3, 0, 0, 0), (555, .iconst 2, 0, 0, 0), (556, .iadd, 0, 0, 0), (557, .iaload, 0, 0, 0), (558, .aload_n 0, 0, 0, 0), (559, .iload_n 3, 0, 0, 0), (560, .iconst 3, 0, 0, 0), (561, .iadd, 0, 0, 0), (562, .iaload, 0, 0, 0), (563, .invokevirtual 65, 93, 0, 3), (566, .aload_n 2, 0, 0, 0), (567, .aload_n 0, 0, 0, 0)]
def zc_204_6 : List zE := [(568, .iload_n 3, 0, 0, 0), (569, .iconst 1, 0, 0, 0), (570, .iadd, 0, 0, 0), (571, .iaload, 0, 0, 0), (572, .aload_n 0, 0, 0, 0), (573, .iload_n 3, 0, 0, 0), (574, .iconst 2, 0, 0, 0), (575, .iadd, 0, 0, 0), (576, .iaload, 0, 0, 0), (577, .aload_n 0, 0, 0, 0), (578, .iload_n 3, 0, 0, 0), (579, .iconst 3, 0, 0, 0), (580, .iadd, 0, 0, 0), (581, .iaload, 0, 0, 0), (582, .invokevirtual 68, 135, 0, 3), (585, .if_icmp .eq 356, 0, 0, 0), (588, .iconst 0, 0, 0, 0), (589, .ireturn, 0, 0, 0), (590, .aload_n 1, 0, 0, 0), (591, .aload_n 0, 0, 0, 0), (592, .iload_n 3, 0, 0, 0), (593, .iconst 1, 0, 0, 0), (594, .iadd, 0, 0, 0), (595, .iaload, 0, 0, 0), (596, .invokevirtual 69, 94, 0, 1), (599, .aload_n 2, 0, 0, 0), (600, .aload_n 0, 0, 0, 0), (601, .iload_n 3, 0, 0, 0), (602, .iconst 1, 0, 0, 0), (603, .iadd, 0, 0, 0), (604, .iaload, 0, 0, 0), (605, .invokevirtual 72, 136, 0, 1), (608, .if_icmp .eq 333, 0, 0, 0), (611, .iconst 0, 0, 0, 0), (612, .ireturn, 0, 0, 0), (613, .aload_n 1, 0, 0, 0), (614, .aload_n 0, 0, 0, 0), (615, .iload_n 3, 0, 0, 0), (616, .iconst 1, 0, 0, 0), (617, .iadd, 0, 0, 0), (618, .iaload, 0, 0, 0), (619, .aload_n 0, 0, 0, 0), (620, .iload_n 3, 0, 0, 0), (621, .iconst 2, 0, 0, 0), (622, .iadd, 0, 0, 0), (623, .iaload, 0, 0, 0), (624, .invokevirtual 73, 95, 0, 2), (627, .aload_n 2, 0, 0, 0), (628, .aload_n 0, 0, 0, 0), (629, .iload_n 3, 0, 0, 0), (630, .iconst 1, 0, 0, 0), (631, .iadd, 0, 0, 0), (632, .iaload, 0, 0, 0), (633, .aload_n 0, 0, 0, 0), (634, .iload_n 3, 0, 0, 0), (635, .iconst 2, 0, 0, 0), (636, .iadd, 0, 0, 0), (637, .iaload, 0, 0, 0), (638, .invokevirtual 76, 137, 0, 2), (641, .if_icmp .eq 300, 0, 0, 0)]
def zc_204_7 : List zE := [(644, .iconst 0, 0, 0, 0), (645, .ireturn, 0, 0, 0), (646, .aload_n 1, 0, 0, 0), (647, .aload_n 0, 0, 0, 0), (648, .iload_n 3, 0, 0, 0), (649, .iconst 1, 0, 0, 0), (650, .iadd, 0, 0, 0), (651, .iaload, 0, 0, 0), (652, .aload_n 0, 0, 0, 0), (653, .iload_n 3, 0, 0, 0), (654, .iconst 2, 0, 0, 0), (655, .iadd, 0, 0, 0), (656, .iaload, 0, 0, 0), (657, .invokevirtual 77, 96, 0, 2), (660, .aload_n 2, 0, 0, 0), (661, .aload_n 0, 0, 0, 0), (662, .iload_n 3, 0, 0, 0), (663, .iconst 1, 0, 0, 0), (664, .iadd, 0, 0, 0), (665, .iaload, 0, 0, 0), (666, .aload_n 0, 0, 0, 0), (667, .iload_n 3, 0, 0, 0), (668, .iconst 2, 0, 0, 0), (669, .iadd, 0, 0, 0), (670, .iaload, 0, 0, 0), (671, .invokevirtual 80, 138, 0, 2), (674, .if_icmp .eq 267, 0, 0, 0), (677, .iconst 0, 0, 0, 0), (678, .ireturn, 0, 0, 0), (679, .aload_n 1, 0, 0, 0), (680, .aload_n 0, 0, 0, 0), (681, .iload_n 3, 0, 0, 0), (682, .iconst 1, 0, 0, 0), (683, .iadd, 0, 0, 0), (684, .iaload, 0, 0, 0), (685, .aload_n 0, 0, 0, 0), (686, .iload_n 3, 0, 0, 0), (687, .iconst 2, 0, 0, 0), (688, .iadd, 0, 0, 0), (689, .iaload, 0, 0, 0), (690, .invokevirtual 81, 97, 0, 2), (693, .aload_n 2, 0, 0, 0), (694, .aload_n 0, 0, 0, 0), (695, .iload_n 3, 0, 0, 0), (696, .iconst 1, 0, 0, 0), (697, .iadd, 0, 0, 0), (698, .iaload, 0, 0, 0), (699, .aload_n 0, 0, 0, 0), (700, .iload_n 3, 0, 0, 0), (701, .iconst 2, 0, 0, 0), (702, .iadd, 0, 0, 0), (703, .iaload, 0, 0, 0), (704, .invokevirtual 84, 173, 0, 2), (707, .if_icmp .eq 234, 0, 0, 0), (710, .iconst 0, 0, 0, 0), (711, .ireturn, 0, 0, 0), (712, .aload_n 1, 0, 0, 0), (713, .aload_n 0, 0, 0, 0), (714, .iload_n 3, 0, 0, 0), (715, .iconst 1, 0, 0, 0)]
def zc_204_8 : List zE := [(716, .iadd, 0, 0, 0), (717, .iaload, 0, 0, 0), (718, .aload_n 0, 0, 0, 0), (719, .iload_n 3, 0, 0, 0), (720, .iconst 2, 0, 0, 0), (721, .iadd, 0, 0, 0), (722, .iaload, 0, 0, 0), (723, .invokevirtual 85, 98, 0, 2), (726, .aload_n 2, 0, 0, 0), (727, .aload_n 0, 0, 0, 0), (728, .iload_n 3, 0, 0, 0), (729, .iconst 1, 0, 0, 0), (730, .iadd, 0, 0, 0), (731, .iaload, 0, 0, 0), (732, .aload_n 0, 0, 0, 0), (733, .iload_n 3, 0, 0, 0), (734, .iconst 2, 0, 0, 0), (735, .iadd, 0, 0, 0), (736, .iaload, 0, 0, 0), (737, .invokevirtual 88, 174, 0, 2), (740, .if_icmp .eq 201, 0, 0, 0), (743, .iconst 0, 0, 0, 0), (744, .ireturn, 0, 0, 0), (745, .aload_n 1, 0, 0, 0), (746, .aload_n 0, 0, 0, 0), (747, .iload_n 3, 0, 0, 0), (748, .iconst 1, 0, 0, 0), (749, .iadd, 0, 0, 0), (750, .iaload, 0, 0, 0), (751, .aload_n 0, 0, 0, 0), (752, .iload_n 3, 0, 0, 0), (753, .iconst 2, 0, 0, 0), (754, .iadd, 0, 0, 0), (755, .iaload, 0, 0, 0), (756, .invokevirtual 89, 99, 0, 2), (759, .aload_n 2, 0, 0, 0), (760, .aload_n 0, 0, 0, 0), (761, .iload_n 3, 0, 0, 0), (762, .iconst 1, 0, 0, 0), (763, .iadd, 0, 0, 0), (764, .iaload, 0, 0, 0), (765, .aload_n 0, 0, 0, 0), (766, .iload_n 3, 0, 0, 0), (767, .iconst 2, 0, 0, 0), (768, .iadd, 0, 0, 0), (769, .iaload, 0, 0, 0), (770, .invokevirtual 92, 148, 0, 2), (773, .if_icmp .eq 168, 0, 0, 0), (776, .iconst 0, 0, 0, 0), (777, .ireturn, 0, 0, 0), (778, .aload_n 1, 0, 0, 0), (779, .aload_n 0, 0, 0, 0), (780, .iload_n 3, 0, 0, 0), (781, .iconst 1, 0, 0, 0), (782, .iadd, 0, 0, 0), (783, .iaload, 0, 0, 0), (784, .aload_n 0, 0, 0, 0), (785, .iload_n 3, 0, 0, 0), (786, .iconst 2, 0, 0, 0), (787, .iadd, 0, 0, 0)]
def zc_204_9 : List zE := [(788, .iaload, 0, 0, 0), (789, .invokevirtual 93, 100, 0, 2), (792, .aload_n 2, 0, 0, 0), (793, .aload_n 0, 0, 0, 0), (794, .iload_n 3, 0, 0, 0), (795, .iconst 1, 0, 0, 0), (796, .iadd, 0, 0, 0), (797, .iaload, 0, 0, 0), (798, .aload_n 0, 0, 0, 0), (799, .iload_n 3, 0, 0, 0), (800, .iconst 2, 0, 0, 0), (801, .iadd, 0, 0, 0), (802, .iaload, 0, 0, 0), (803, .invokevirtual 97, 145, 0, 2), (806, .lcmp, 0, 0, 0), (807, .ifCond .eq 134, 0, 0, 0), (810, .iconst 0, 0, 0, 0), (811, .ireturn, 0, 0, 0), (812, .aload_n 1, 0, 0, 0), (813, .aload_n 0, 0, 0, 0), (814, .iload_n 3, 0, 0, 0), (815, .iconst 1, 0, 0, 0), (816, .iadd, 0, 0, 0), (817, .iaload, 0, 0, 0), (818, .invokevirtual 98, 101, 0, 1), (821, .aload_n 2, 0, 0, 0), (822, .aload_n 0, 0, 0, 0), (823, .iload_n 3, 0, 0, 0), (824, .iconst 1, 0, 0, 0), (825, .iadd, 0, 0, 0), (826, .iaload, 0, 0, 0), (827, .invokevirtual 101, 175, 0, 1), (830, .if_icmp .eq 111, 0, 0, 0), (833, .iconst 0, 0, 0, 0), (834, .ireturn, 0, 0, 0), (835, .aload_n 1, 0, 0, 0), (836, .aload_n 0, 0, 0, 0), (837, .iload_n 3, 0, 0, 0), (838, .iconst 1, 0, 0, 0), (839, .iadd, 0, 0, 0), (840, .iaload, 0, 0, 0), (841, .invokevirtual 102, 102, 0, 1), (844, .aload_n 2, 0, 0, 0), (845, .aload_n 0, 0, 0, 0), (846, .iload_n 3, 0, 0, 0), (847, .iconst 1, 0, 0, 0), (848, .iadd, 0, 0, 0), (849, .iaload, 0, 0, 0), (850, .invokevirtual 105, 176, 0, 1), (853, .if_icmp .eq 88, 0, 0, 0), (856, .iconst 0, 0, 0, 0), (857, .ireturn, 0, 0, 0), (858, .aload_n 1, 0, 0, 0), (859, .aload_n 0, 0, 0, 0), (860, .iload_n 3, 0, 0, 0), (861, .iconst 1, 0, 0, 0), (862, .iadd, 0, 0, 0), (863, .iaload, 0, 0, 0), (864, .aload_n 0, 0, 0, 0), (865, .iload_n 3, 0, 0, 0)]
def zc_204_10 : List zE := [(866, .iconst 2, 0, 0, 0), (867, .iadd, 0, 0, 0), (868, .iaload, 0, 0, 0), (869, .invokevirtual 106, 103, 0, 2), (872, .aload_n 2, 0, 0, 0), (873, .aload_n 0, 0, 0, 0), (874, .iload_n 3, 0, 0, 0), (875, .iconst 1, 0, 0, 0), (876, .iadd, 0, 0, 0), (877, .iaload, 0, 0, 0), (878, .aload_n 0, 0, 0, 0), (879, .iload_n 3, 0, 0, 0), (880, .iconst 2, 0, 0, 0), (881, .iadd, 0, 0, 0), (882, .iaload, 0, 0, 0), (883, .invokevirtual 109, 177, 0, 2), (886, .lcmp, 0, 0, 0), (887, .ifCond .eq 54, 0, 0, 0), (890, .iconst 0, 0, 0, 0), (891, .ireturn, 0, 0, 0), (892, .aload_n 1, 0, 0, 0), (893, .invokevirtual 110, 104, 0, 0), (896, .aload_n 2, 0, 0, 0), (897, .invokevirtual 113, 178, 0, 0), (900, .if_icmp .eq 41, 0, 0, 0), (903, .iconst 0, 0, 0, 0), (904, .ireturn, 0, 0, 0), (905, .aload_n 1, 0, 0, 0), (906, .aload_n 0, 0, 0, 0), (907, .iload_n 3, 0, 0, 0), (908, .iconst 1, 0, 0, 0), (909, .iadd, 0, 0, 0), (910, .iaload, 0, 0, 0), (911, .invokevirtual 114, 105, 0, 1), (914, .aload_n 2, 0, 0, 0), (915, .aload_n 0, 0, 0, 0), (916, .iload_n 3, 0, 0, 0), (917, .iconst 1, 0, 0, 0), (918, .iadd, 0, 0, 0), (919, .iaload, 0, 0, 0), (920, .invokevirtual 117, 179, 0, 1), (923, .if_icmp .eq 18, 0, 0, 0), (926, .iconst 0, 0, 0, 0), (927, .ireturn, 0, 0, 0), (928, .aload_n 1, 0, 0, 0), (929, .invokevirtual 118, 106, 0, 0), (932, .aload_n 2, 0, 0, 0), (933, .invokevirtual 121, 180, 0, 0), (936, .if_icmp .eq 5, 0, 0, 0), (939, .iconst 0, 0, 0, 0), (940, .ireturn, 0, 0, 0), (941, .iinc 3 4, 0, 0, 0), (944, .goto (-926), 0, 0, 0), (947, .iconst 1, 0, 0, 0), (948, .ireturn, 0, 0, 0)]
def zc_204 : List zE := zc_204_0 ++ (zc_204_1 ++ (zc_204_2 ++ (zc_204_3 ++ (zc_204_4 ++ (zc_204_5 ++ (zc_204_6 ++ (zc_204_7 ++ (zc_204_8 ++ (zc_204_9 ++ (zc_204_10))))))))))
/-- name, bytes, locals, answer, class, frames, words, code -/
abbrev zR : Type := MethodName × ByteArray × Nat × Option FieldType × Nat × Nat × Nat × List zE
def zr_0 : zR := (yX0_init, cX0_init, 2, none, 0, 4, 100, zc_0)
def zr_1 : zR := (yX0_hasInput, cX0_hasInput, 3, (Option.some Jvm.ClassFile.FieldType.boolean), 0, 3, 64, zc_1)
def zr_2 : zR := (yX0_addStep, cX0_addStep, 3, (Option.some Jvm.ClassFile.FieldType.int), 0, 0, 0, zc_2)
def zr_3 : zR := (yX0_strip, cX0_strip, 3, (Option.some Jvm.ClassFile.FieldType.int), 0, 3, 64, zc_3)
def zr_4 : zR := (yX0_takeOutcome, cX0_takeOutcome, 4, none, 0, 3, 64, zc_4)
def zr_5 : zR := (yX1_init, cX1_init, 1, none, 1, 4, 100, zc_5)
def zr_6 : zR := (yX1_reset, cX1_reset, 1, none, 1, 8, 193, zc_6)
def zr_7 : zR := (yX1_find, cX1_find, 5, (Option.some Jvm.ClassFile.FieldType.int), 1, 3, 64, zc_7)
def zr_8 : zR := (yX1_use, cX1_use, 3, (Option.some (Jvm.ClassFile.FieldType.object "BuildCache$Entry")), 1, 7, 171, zc_8)
def zr_9 : zR := (yX1_unused, cX1_unused, 3, (Option.some (Jvm.ClassFile.FieldType.object "BuildCache$Entry")), 1, 4, 101, zc_9)
def zr_10 : zR := (yX1_add, cX1_add, 2, none, 1, 8, 193, zc_10)
def zr_11 : zR := (yX1_evictExcess, cX1_evictExcess, 3, (Option.some Jvm.ClassFile.FieldType.int), 1, 7, 171, zc_11)
def zr_12 : zR := (yX1_dropAll, cX1_dropAll, 3, (Option.some Jvm.ClassFile.FieldType.int), 1, 7, 171, zc_12)
def zr_13 : zR := (yX2_init, cX2_init, 1, none, 2, 1, 40, zc_13)
def zr_14 : zR := (yX2_isAbsent, cX2_isAbsent, 1, (Option.some Jvm.ClassFile.FieldType.boolean), 2, 0, 0, zc_14)
def zr_15 : zR := (yX2_append, cX2_append, 2, (Option.some Jvm.ClassFile.FieldType.boolean), 2, 0, 0, zc_15)
def zr_16 : zR := (yX2_appendAll, cX2_appendAll, 4, (Option.some Jvm.ClassFile.FieldType.boolean), 2, 1, 21, zc_16)
def zr_17 : zR := (yX2_become, cX2_become, 3, none, 2, 0, 0, zc_17)
def zr_18 : zR := (yX2_sameAs, cX2_sameAs, 3, (Option.some Jvm.ClassFile.FieldType.boolean), 2, 0, 0, zc_18)
def zr_19 : zR := (yX2_turn, cX2_turn, 3, none, 2, 0, 0, zc_19)
def zr_20 : zR := (yX2_sort, cX2_sort, 4, none, 2, 0, 0, zc_20)
def zr_21 : zR := (yX2_sum, cX2_sum, 3, (Option.some Jvm.ClassFile.FieldType.int), 2, 0, 0, zc_21)
def zr_22 : zR := (yX2_becomeFigures, cX2_becomeFigures, 4, none, 2, 1, 22, zc_22)
def zr_23 : zR := (yX2_cut, cX2_cut, 2, none, 2, 0, 0, zc_23)
def zr_24 : zR := (yX2_keepFirstOnes, cX2_keepFirstOnes, 3, none, 2, 1, 23, zc_24)
def zr_25 : zR := (yX2_isAmongFirst, cX2_isAmongFirst, 4, (Option.some Jvm.ClassFile.FieldType.boolean), 2, 0, 0, zc_25)
def zr_26 : zR := (yX2_mix, cX2_mix, 3, none, 2, 0, 0, zc_26)
def zr_27 : zR := (yX3_init, cX3_init, 1, none, 3, 3, 81, zc_27)
def zr_28 : zR := (yX3_begin, cX3_begin, 2, none, 3, 1, 23, zc_28)
def zr_29 : zR := (yX4_init, cX4_init, 1, none, 4, 4, 100, zc_29)
def zr_30 : zR := (yX4_size, cX4_size, 1, (Option.some Jvm.ClassFile.FieldType.int), 4, 1, 20, zc_30)
def zr_31 : zR := (yX4_has, cX4_has, 2, (Option.some Jvm.ClassFile.FieldType.boolean), 4, 1, 20, zc_31)
def zr_32 : zR := (yX4_at, cX4_at, 2, (Option.some (Jvm.ClassFile.FieldType.object "BuildCache$Action")), 4, 3, 64, zc_32)
def zr_33 : zR := (yX4_add, cX4_add, 1, (Option.some Jvm.ClassFile.FieldType.int), 4, 7, 171, zc_33)
def zr_34 : zR := (yX4_all, cX4_all, 1, (Option.some Jvm.ClassFile.FieldType.long), 4, 1, 20, zc_34)
def zr_35 : zR := (yX4_renewUses, cX4_renewUses, 4, none, 4, 4, 87, zc_35)
def zr_36 : zR := (yX4_withAllUsed, cX4_withAllUsed, 9, (Option.some Jvm.ClassFile.FieldType.long), 4, 3, 64, zc_36)
def zr_37 : zR := (yX4_wouldCircleByInput, cX4_wouldCircleByInput, 3, (Option.some Jvm.ClassFile.FieldType.boolean), 4, 4, 92, zc_37)
def zr_38 : zR := (yX4_wouldCircleByOutput, cX4_wouldCircleByOutput, 6, (Option.some Jvm.ClassFile.FieldType.boolean), 4, 4, 92, zc_38)
def zr_39 : zR := (yX4_leastReady, cX4_leastReady, 4, (Option.some Jvm.ClassFile.FieldType.int), 4, 3, 64, zc_39)
def zr_40 : zR := (yX5_init, cX5_init, 1, none, 5, 1, 40, zc_40)
def zr_41 : zR := (yX5_describe, cX5_describe, 4, none, 5, 6, 133, zc_41)
def zr_42 : zR := (yX5_putPart, cX5_putPart, 3, none, 5, 5, 111, zc_42)
def zr_43 : zR := (yX5_putListed, cX5_putListed, 5, none, 5, 4, 87, zc_43)
def zr_44 : zR := (yX5_putContent, cX5_putContent, 3, none, 5, 1, 21, zc_44)
def zr_45 : zR := (yX5_put, cX5_put, 2, none, 5, 0, 0, zc_45)
def zr_46 : zR := (yX5_become, cX5_become, 3, none, 5, 0, 0, zc_46)
def zr_47 : zR := (yX5_sign, cX5_sign, 4, (Option.some Jvm.ClassFile.FieldType.long), 5, 0, 0, zc_47)
def zr_48 : zR := (yX5_sameAs, cX5_sameAs, 2, (Option.some Jvm.ClassFile.FieldType.boolean), 5, 1, 22, zc_48)
def zr_49 : zR := (yX5_firstOther, cX5_firstOther, 3, (Option.some Jvm.ClassFile.FieldType.int), 5, 0, 0, zc_49)
def zr_50 : zR := (yX5_changeSince, cX5_changeSince, 4, (Option.some Jvm.ClassFile.FieldType.int), 5, 2, 43, zc_50)
def zr_51 : zR := (yX6_init, cX6_init, 1, none, 6, 1, 40, zc_51)
def zr_52 : zR := (yX6_reset, cX6_reset, 1, none, 6, 0, 0, zc_52)
def zr_53 : zR := (yX6_begin, cX6_begin, 1, none, 6, 0, 0, zc_53)
def zr_54 : zR := (yX6_add, cX6_add, 5, none, 6, 0, 0, zc_54)
def zr_55 : zR := (yX7_init, cX7_init, 2, none, 7, 2, 60, zc_55)
def zr_56 : zR := (yX7_begin, cX7_begin, 2, none, 7, 1, 40, zc_56)
def zr_57 : zR := (yX7_fail, cX7_fail, 3, none, 7, 0, 0, zc_57)
def zr_58 : zR := (yX7_size, cX7_size, 3, (Option.some Jvm.ClassFile.FieldType.int), 7, 1, 40, zc_58)
def zr_59 : zR := (yX8_init, cX8_init, 6, none, 8, 4, 100, zc_59)
def zr_60 : zR := (yX8_addFile, cX8_addFile, 3, none, 8, 6, 151, zc_60)
def zr_61 : zR := (yX8_madeBy, cX8_madeBy, 3, none, 8, 0, 0, zc_61)
def zr_62 : zR := (yX8_makers, cX8_makers, 4, (Option.some Jvm.ClassFile.FieldType.long), 8, 3, 64, zc_62)
def zr_63 : zR := (yX8_listed, cX8_listed, 4, (Option.some Jvm.ClassFile.FieldType.int), 8, 3, 64, zc_63)
def zr_64 : zR := (yX9_init, cX9_init, 1, none, 9, 2, 60, zc_64)
def zr_65 : zR := (yX9_run, cX9_run, 6, none, 9, 5, 115, zc_65)
def zr_66 : zR := (yX9_perform, cX9_perform, 6, (Option.some Jvm.ClassFile.FieldType.int), 9, 4, 90, zc_66)
def zr_67 : zR := (yX9_reshape, cX9_reshape, 3, (Option.some Jvm.ClassFile.FieldType.int), 9, 2, 45, zc_67)
def zr_68 : zR := (yX9_readInput, cX9_readInput, 5, (Option.some Jvm.ClassFile.FieldType.int), 9, 3, 64, zc_68)
def zr_69 : zR := (yX9_listInput, cX9_listInput, 7, (Option.some Jvm.ClassFile.FieldType.int), 9, 3, 64, zc_69)
def zr_70 : zR := (yX9_writeOutput, cX9_writeOutput, 3, (Option.some Jvm.ClassFile.FieldType.int), 9, 1, 22, zc_70)
def zr_71 : zR := (yX9_skipFor, cX9_skipFor, 5, (Option.some Jvm.ClassFile.FieldType.int), 9, 3, 64, zc_71)
def zr_72 : zR := (yX10_init, cX10_init, 1, none, 10, 8, 191, zc_72)
def zr_73 : zR := (yX10_reset, cX10_reset, 1, none, 10, 7, 171, zc_73)
def zr_74 : zR := (yX10_size, cX10_size, 1, (Option.some Jvm.ClassFile.FieldType.int), 10, 1, 20, zc_74)
def zr_75 : zR := (yX10_has, cX10_has, 2, (Option.some Jvm.ClassFile.FieldType.boolean), 10, 1, 20, zc_75)
def zr_76 : zR := (yX10_at, cX10_at, 2, (Option.some (Jvm.ClassFile.FieldType.object "BuildCache$Path")), 10, 3, 64, zc_76)
def zr_77 : zR := (yX10_isTaken, cX10_isTaken, 4, (Option.some Jvm.ClassFile.FieldType.boolean), 10, 3, 64, zc_77)
def zr_78 : zR := (yX10_add, cX10_add, 5, (Option.some Jvm.ClassFile.FieldType.int), 10, 7, 173, zc_78)
def zr_79 : zR := (yX10_copySources, cX10_copySources, 6, (Option.some Jvm.ClassFile.FieldType.int), 10, 3, 64, zc_79)
def zr_80 : zR := (yX10_isMadeAlike, cX10_isMadeAlike, 5, (Option.some Jvm.ClassFile.FieldType.boolean), 10, 3, 64, zc_80)
def zr_81 : zR := (yX11_init, cX11_init, 1, none, 11, 9, 211, zc_81)
def zr_82 : zR := (yX11_path, cX11_path, 4, (Option.some Jvm.ClassFile.FieldType.int), 11, 8, 197, zc_82)
def zr_83 : zR := (yX11_of, cX11_of, 4, (Option.some Jvm.ClassFile.FieldType.int), 11, 4, 85, zc_83)
def zr_84 : zR := (yX11_feed, cX11_feed, 5, (Option.some Jvm.ClassFile.FieldType.int), 11, 1, 21, zc_84)
def zr_85 : zR := (yX11_write, cX11_write, 4, (Option.some Jvm.ClassFile.FieldType.int), 11, 6, 130, zc_85)
def zr_86 : zR := (yX11_remove, cX11_remove, 6, (Option.some Jvm.ClassFile.FieldType.int), 11, 6, 130, zc_86)
def zr_87 : zR := (yX11_copy, cX11_copy, 2, (Option.some Jvm.ClassFile.FieldType.int), 11, 4, 89, zc_87)
def zr_88 : zR := (yX11_length, cX11_length, 4, (Option.some Jvm.ClassFile.FieldType.int), 11, 5, 107, zc_88)
def zr_89 : zR := (yX11_byteAt, cX11_byteAt, 6, (Option.some Jvm.ClassFile.FieldType.int), 11, 5, 107, zc_89)
def zr_90 : zR := (yX11_action, cX11_action, 1, (Option.some Jvm.ClassFile.FieldType.int), 11, 8, 191, zc_90)
def zr_91 : zR := (yX11_input, cX11_input, 5, (Option.some Jvm.ClassFile.FieldType.int), 11, 7, 171, zc_91)
def zr_92 : zR := (yX11_output, cX11_output, 5, (Option.some Jvm.ClassFile.FieldType.int), 11, 7, 171, zc_92)
def zr_93 : zR := (yX11_step, cX11_step, 4, (Option.some Jvm.ClassFile.FieldType.int), 11, 4, 85, zc_93)
def zr_94 : zR := (yX11_erase, cX11_erase, 3, (Option.some Jvm.ClassFile.FieldType.int), 11, 5, 110, zc_94)
def zr_95 : zR := (yX11_about, cX11_about, 4, (Option.some Jvm.ClassFile.FieldType.int), 11, 4, 85, zc_95)
def zr_96 : zR := (yX11_uses, cX11_uses, 3, (Option.some Jvm.ClassFile.FieldType.int), 11, 4, 85, zc_96)
def zr_97 : zR := (yX11_build, cX11_build, 8, (Option.some Jvm.ClassFile.FieldType.int), 11, 10, 241, zc_97)
def zr_98 : zR := (yX11_done, cX11_done, 3, (Option.some Jvm.ClassFile.FieldType.int), 11, 0, 0, zc_98)
def zr_99 : zR := (yX11_changed, cX11_changed, 3, (Option.some Jvm.ClassFile.FieldType.int), 11, 7, 156, zc_99)
def zr_100 : zR := (yX11_key, cX11_key, 3, (Option.some Jvm.ClassFile.FieldType.long), 11, 7, 156, zc_100)
def zr_101 : zR := (yX11_isClean, cX11_isClean, 6, (Option.some Jvm.ClassFile.FieldType.int), 11, 6, 140, zc_101)
def zr_102 : zR := (yX11_capacity, cX11_capacity, 2, (Option.some Jvm.ClassFile.FieldType.int), 11, 8, 193, zc_102)
def zr_103 : zR := (yX11_entry, cX11_entry, 4, (Option.some Jvm.ClassFile.FieldType.long), 11, 3, 64, zc_103)
def zr_104 : zR := (yX11_forget, cX11_forget, 1, (Option.some Jvm.ClassFile.FieldType.int), 11, 8, 193, zc_104)
def zr_105 : zR := (yX11_count, cX11_count, 2, (Option.some Jvm.ClassFile.FieldType.int), 11, 2, 40, zc_105)
def zr_106 : zR := (yX11_clear, cX11_clear, 1, (Option.some Jvm.ClassFile.FieldType.int), 11, 9, 213, zc_106)
def zr_107 : zR := (yX11_isSpace, cX11_isSpace, 1, (Option.some Jvm.ClassFile.FieldType.boolean), 11, 0, 0, zc_107)
def zr_108 : zR := (yX11_bit, cX11_bit, 1, (Option.some Jvm.ClassFile.FieldType.long), 11, 0, 0, zc_108)
def zr_109 : zR := (yX11_refusalOfFile, cX11_refusalOfFile, 3, (Option.some Jvm.ClassFile.FieldType.int), 11, 4, 85, zc_109)
def zr_110 : zR := (yX11_refusalOfSource, cX11_refusalOfSource, 4, (Option.some Jvm.ClassFile.FieldType.int), 11, 5, 107, zc_110)
def zr_111 : zR := (yX11_carryOut, cX11_carryOut, 8, none, 11, 9, 214, zc_111)
def zr_112 : zR := (yX12_init, cX12_init, 1, none, 12, 1, 40, zc_112)
def zr_113 : zR := (yX12_in, cX12_in, 3, (Option.some Jvm.ClassFile.FieldType.boolean), 12, 0, 0, zc_113)
def zr_114 : zR := (yX12_isPath, cX12_isPath, 2, (Option.some Jvm.ClassFile.FieldType.boolean), 12, 1, 22, zc_114)
def zr_115 : zR := (yX12_isAction, cX12_isAction, 2, (Option.some Jvm.ClassFile.FieldType.boolean), 12, 1, 22, zc_115)
def zr_116 : zR := (yX12_path, cX12_path, 5, (Option.some Jvm.ClassFile.FieldType.int), 12, 2, 43, zc_116)
def zr_117 : zR := (yX12_of, cX12_of, 3, (Option.some Jvm.ClassFile.FieldType.int), 12, 2, 43, zc_117)
def zr_118 : zR := (yX12_feed, cX12_feed, 5, (Option.some Jvm.ClassFile.FieldType.int), 12, 1, 22, zc_118)
def zr_119 : zR := (yX12_isBadFile, cX12_isBadFile, 3, (Option.some Jvm.ClassFile.FieldType.boolean), 12, 2, 43, zc_119)
def zr_120 : zR := (yX12_isSource, cX12_isSource, 2, (Option.some Jvm.ClassFile.FieldType.boolean), 12, 0, 0, zc_120)
def zr_121 : zR := (yX12_write, cX12_write, 5, (Option.some Jvm.ClassFile.FieldType.int), 12, 3, 65, zc_121)
def zr_122 : zR := (yX12_remove, cX12_remove, 4, (Option.some Jvm.ClassFile.FieldType.int), 12, 3, 65, zc_122)
def zr_123 : zR := (yX12_isAlike, cX12_isAlike, 8, (Option.some Jvm.ClassFile.FieldType.boolean), 12, 0, 0, zc_123)
def zr_124 : zR := (yX12_copyFile, cX12_copyFile, 7, none, 12, 0, 0, zc_124)
def zr_125 : zR := (yX12_copy, cX12_copy, 4, (Option.some Jvm.ClassFile.FieldType.int), 12, 1, 27, zc_125)
def zr_126 : zR := (yX12_length, cX12_length, 3, (Option.some Jvm.ClassFile.FieldType.int), 12, 3, 65, zc_126)
def zr_127 : zR := (yX12_byteAt, cX12_byteAt, 4, (Option.some Jvm.ClassFile.FieldType.int), 12, 3, 65, zc_127)
def zr_128 : zR := (yX12_action, cX12_action, 1, (Option.some Jvm.ClassFile.FieldType.int), 12, 0, 0, zc_128)
def zr_129 : zR := (yX12_isUsed, cX12_isUsed, 8, (Option.some Jvm.ClassFile.FieldType.boolean), 12, 0, 0, zc_129)
def zr_130 : zR := (yX12_reach, cX12_reach, 5, none, 12, 1, 27, zc_130)
def zr_131 : zR := (yX12_isCircle, cX12_isCircle, 2, (Option.some Jvm.ClassFile.FieldType.boolean), 12, 2, 51, zc_131)
def zr_132 : zR := (yX12_input, cX12_input, 4, (Option.some Jvm.ClassFile.FieldType.int), 12, 3, 78, zc_132)
def zr_133 : zR := (yX12_comesToItself, cX12_comesToItself, 8, (Option.some Jvm.ClassFile.FieldType.boolean), 12, 2, 51, zc_133)
def zr_134 : zR := (yX12_output, cX12_output, 3, (Option.some Jvm.ClassFile.FieldType.int), 12, 3, 78, zc_134)
def zr_135 : zR := (yX12_step, cX12_step, 4, (Option.some Jvm.ClassFile.FieldType.int), 12, 2, 43, zc_135)
def zr_136 : zR := (yX12_erase, cX12_erase, 5, (Option.some Jvm.ClassFile.FieldType.int), 12, 2, 43, zc_136)
def zr_137 : zR := (yX12_about, cX12_about, 5, (Option.some Jvm.ClassFile.FieldType.int), 12, 2, 43, zc_137)
def zr_138 : zR := (yX12_uses, cX12_uses, 3, (Option.some Jvm.ClassFile.FieldType.int), 12, 2, 43, zc_138)
def zr_139 : zR := (yX12_mix, cX12_mix, 2, none, 12, 0, 0, zc_139)
def zr_140 : zR := (yX12_mixHead, cX12_mixHead, 3, none, 12, 1, 21, zc_140)
def zr_141 : zR := (yX12_list, cX12_list, 5, none, 12, 0, 0, zc_141)
def zr_142 : zR := (yX12_mixPart, cX12_mixPart, 5, none, 12, 1, 24, zc_142)
def zr_143 : zR := (yX12_layKey, cX12_layKey, 4, none, 12, 2, 48, zc_143)
def zr_144 : zR := (yX12_signOf, cX12_signOf, 6, (Option.some Jvm.ClassFile.FieldType.long), 12, 0, 0, zc_144)
def zr_145 : zR := (yX12_key, cX12_key, 3, (Option.some Jvm.ClassFile.FieldType.long), 12, 3, 71, zc_145)
def zr_146 : zR := (yX12_isRow, cX12_isRow, 8, (Option.some Jvm.ClassFile.FieldType.boolean), 12, 0, 0, zc_146)
def zr_147 : zR := (yX12_changedOf, cX12_changedOf, 6, (Option.some Jvm.ClassFile.FieldType.int), 12, 3, 71, zc_147)
def zr_148 : zR := (yX12_changed, cX12_changed, 3, (Option.some Jvm.ClassFile.FieldType.int), 12, 4, 96, zc_148)
def zr_149 : zR := (yX12_note, cX12_note, 5, none, 12, 3, 71, zc_149)
def zr_150 : zR := (yX12_add, cX12_add, 2, none, 12, 0, 0, zc_150)
def zr_151 : zR := (yX12_figures, cX12_figures, 4, none, 12, 1, 21, zc_151)
def zr_152 : zR := (yX12_read, cX12_read, 5, none, 12, 1, 21, zc_152)
def zr_153 : zR := (yX12_listIn, cX12_listIn, 4, none, 12, 1, 24, zc_153)
def zr_154 : zR := (yX12_writeOut, cX12_writeOut, 3, none, 12, 0, 0, zc_154)
def zr_155 : zR := (yX12_turn, cX12_turn, 3, none, 12, 0, 0, zc_155)
def zr_156 : zR := (yX12_sort, cX12_sort, 4, none, 12, 0, 0, zc_156)
def zr_157 : zR := (yX12_once, cX12_once, 5, none, 12, 0, 0, zc_157)
def zr_158 : zR := (yX12_twice, cX12_twice, 3, none, 12, 1, 21, zc_158)
def zr_159 : zR := (yX12_sum, cX12_sum, 3, (Option.some Jvm.ClassFile.FieldType.int), 12, 0, 0, zc_159)
def zr_160 : zR := (yX12_mixWith, cX12_mixWith, 3, none, 12, 0, 0, zc_160)
def zr_161 : zR := (yX12_alone, cX12_alone, 3, none, 12, 2, 44, zc_161)
def zr_162 : zR := (yX12_play, cX12_play, 8, none, 12, 3, 66, zc_162)
def zr_163 : zR := (yX12_lay, cX12_lay, 6, none, 12, 0, 0, zc_163)
def zr_164 : zR := (yX12_sizes, cX12_sizes, 3, (Option.some Jvm.ClassFile.FieldType.int), 12, 0, 0, zc_164)
def zr_165 : zR := (yX12_takeOut, cX12_takeOut, 3, none, 12, 0, 0, zc_165)
def zr_166 : zR := (yX12_trim, cX12_trim, 3, (Option.some Jvm.ClassFile.FieldType.int), 12, 1, 22, zc_166)
def zr_167 : zR := (yX12_placeOf, cX12_placeOf, 3, (Option.some Jvm.ClassFile.FieldType.int), 12, 1, 27, zc_167)
def zr_168 : zR := (yX12_enter, cX12_enter, 5, none, 12, 2, 44, zc_168)
def zr_169 : zR := (yX12_use, cX12_use, 5, none, 12, 1, 22, zc_169)
def zr_170 : zR := (yX12_need, cX12_need, 5, none, 12, 2, 51, zc_170)
def zr_171 : zR := (yX12_next, cX12_next, 4, (Option.some Jvm.ClassFile.FieldType.int), 12, 1, 27, zc_171)
def zr_172 : zR := (yX12_does, cX12_does, 5, none, 12, 4, 96, zc_172)
def zr_173 : zR := (yX12_build, cX12_build, 5, (Option.some Jvm.ClassFile.FieldType.int), 12, 5, 120, zc_173)
def zr_174 : zR := (yX12_done, cX12_done, 3, (Option.some Jvm.ClassFile.FieldType.int), 12, 1, 22, zc_174)
def zr_175 : zR := (yX12_isClean, cX12_isClean, 5, (Option.some Jvm.ClassFile.FieldType.int), 12, 4, 93, zc_175)
def zr_176 : zR := (yX12_capacity, cX12_capacity, 2, (Option.some Jvm.ClassFile.FieldType.int), 12, 2, 44, zc_176)
def zr_177 : zR := (yX12_entry, cX12_entry, 4, (Option.some Jvm.ClassFile.FieldType.long), 12, 1, 25, zc_177)
def zr_178 : zR := (yX12_forget, cX12_forget, 3, (Option.some Jvm.ClassFile.FieldType.int), 12, 0, 0, zc_178)
def zr_179 : zR := (yX12_count, cX12_count, 2, (Option.some Jvm.ClassFile.FieldType.int), 12, 1, 22, zc_179)
def zr_180 : zR := (yX12_clear, cX12_clear, 1, (Option.some Jvm.ClassFile.FieldType.int), 12, 1, 22, zc_180)
def zr_181 : zR := (yJ13_bitCount_95d88, cJ13_bitCount_95d88, 2, (Option.some Jvm.ClassFile.FieldType.int), 20, 0, 0, zc_181)
def zr_182 : zR := (yJxa1e45_init_da8c8, cJxa1e45_init_da8c8, 1, none, 15, 1, 40, zc_182)
def zr_183 : zR := (yJxc12de_init_da8c8, cJxc12de_init_da8c8, 1, none, 14, 2, 60, zc_183)
def zr_184 : zR := (yJx4a65c_init_da8c8, cJx4a65c_init_da8c8, 1, none, 13, 3, 80, zc_184)
def zr_185 : zR := (yJx4a65c_grow_92f84, cJx4a65c_grow_92f84, 4, (Option.some (Jvm.ClassFile.FieldType.array (Jvm.ClassFile.FieldType.object "java/lang/Object"))), 13, 3, 84, zc_185)
def zr_186 : zR := (yJx4a65c_grow_d5877, cJx4a65c_grow_d5877, 1, (Option.some (Jvm.ClassFile.FieldType.array (Jvm.ClassFile.FieldType.object "java/lang/Object"))), 13, 4, 107, zc_186)
def zr_187 : zR := (yJx4a65c_size_8abf5, cJx4a65c_size_8abf5, 1, (Option.some Jvm.ClassFile.FieldType.int), 13, 0, 0, zc_187)
def zr_188 : zR := (yJx4a65c_isEmpty_aae02, cJx4a65c_isEmpty_aae02, 1, (Option.some Jvm.ClassFile.FieldType.boolean), 13, 0, 0, zc_188)
def zr_189 : zR := (yJx4a65c_elementData_915e3, cJx4a65c_elementData_915e3, 2, (Option.some (Jvm.ClassFile.FieldType.object "java/lang/Object")), 13, 0, 0, zc_189)
def zr_190 : zR := (yJx4a65c_get_915e3, cJx4a65c_get_915e3, 2, (Option.some (Jvm.ClassFile.FieldType.object "java/lang/Object")), 13, 2, 43, zc_190)
def zr_191 : zR := (yJx4a65c_add_72be8, cJx4a65c_add_72be8, 4, none, 13, 5, 127, zc_191)
def zr_192 : zR := (yJx4a65c_add_9ea2d, cJx4a65c_add_9ea2d, 2, (Option.some Jvm.ClassFile.FieldType.boolean), 13, 6, 150, zc_192)
def zr_193 : zR := (yJx4a65c_add_7a177, cJx4a65c_add_7a177, 5, none, 13, 5, 127, zc_193)
def zr_194 : zR := (yJx4a65c_remove_915e3, cJx4a65c_remove_915e3, 4, (Option.some (Jvm.ClassFile.FieldType.object "java/lang/Object")), 13, 2, 63, zc_194)
def zr_195 : zR := (yJx4a65c_fastRemove_b59b0, cJx4a65c_fastRemove_b59b0, 4, none, 13, 1, 40, zc_195)
def zr_196 : zR := (yJx4a65c_clear_da8c8, cJx4a65c_clear_da8c8, 4, none, 13, 0, 0, zc_196)
def zr_197 : zR := (yJx4a65c_rangeCheckForAdd_d00df, cJx4a65c_rangeCheckForAdd_d00df, 2, none, 13, 0, 0, zc_197)
def zr_198 : zR := (yJ7_copyOf_1904c, cJ7_copyOf_1904c, 2, (Option.some (Jvm.ClassFile.FieldType.array (Jvm.ClassFile.FieldType.object "java/lang/Object"))), 16, 2, 63, zc_198)
def zr_199 : zR := (yJ7_copyOf_6403c, cJ7_copyOf_6403c, 4, (Option.some (Jvm.ClassFile.FieldType.array (Jvm.ClassFile.FieldType.object "java/lang/Object"))), 16, 1, 40, zc_199)
def zr_200 : zR := (yJ15_checkIndex_7cf53, cJ15_checkIndex_7cf53, 2, (Option.some Jvm.ClassFile.FieldType.int), 17, 1, 22, zc_200)
def zr_201 : zR := (yJ8_newLength_cabcc, cJ8_newLength_cabcc, 4, (Option.some Jvm.ClassFile.FieldType.int), 19, 1, 40, zc_201)
def zr_202 : zR := (yJ8_hugeLength_7cf53, cJ8_hugeLength_7cf53, 3, (Option.some Jvm.ClassFile.FieldType.int), 19, 0, 0, zc_202)
def zr_203 : zR := (yJ3_checkIndex_8e157, cJ3_checkIndex_8e157, 3, (Option.some Jvm.ClassFile.FieldType.int), 18, 0, 0, zc_203)
def zr_204 : zR := (yL_law, cL_law, 4, (some .boolean), 24, 11, 268, zc_204)
def zTg_0 : List zR := [zr_0, zr_1, zr_2, zr_3, zr_4, zr_5, zr_6, zr_7, zr_8, zr_9, zr_10, zr_11, zr_12, zr_13, zr_14, zr_15, zr_16, zr_17, zr_18, zr_19]
def zTg_1 : List zR := [zr_20, zr_21, zr_22, zr_23, zr_24, zr_25, zr_26, zr_27, zr_28, zr_29, zr_30, zr_31, zr_32, zr_33, zr_34, zr_35, zr_36, zr_37, zr_38, zr_39]
def zTg_2 : List zR := [zr_40, zr_41, zr_42, zr_43, zr_44, zr_45, zr_46, zr_47, zr_48, zr_49, zr_50, zr_51, zr_52, zr_53, zr_54, zr_55, zr_56, zr_57, zr_58, zr_59]
def zTg_3 : List zR := [zr_60, zr_61, zr_62, zr_63, zr_64, zr_65, zr_66, zr_67, zr_68, zr_69, zr_70, zr_71, zr_72, zr_73, zr_74, zr_75, zr_76, zr_77, zr_78, zr_79]
def zTg_4 : List zR := [zr_80, zr_81, zr_82, zr_83, zr_84, zr_85, zr_86, zr_87, zr_88, zr_89, zr_90, zr_91, zr_92, zr_93, zr_94, zr_95, zr_96, zr_97, zr_98, zr_99]
def zTg_5 : List zR := [zr_100, zr_101, zr_102, zr_103, zr_104, zr_105, zr_106, zr_107, zr_108, zr_109, zr_110, zr_111, zr_112, zr_113, zr_114, zr_115, zr_116, zr_117, zr_118, zr_119]
def zTg_6 : List zR := [zr_120, zr_121, zr_122, zr_123, zr_124, zr_125, zr_126, zr_127, zr_128, zr_129, zr_130, zr_131, zr_132, zr_133, zr_134, zr_135, zr_136, zr_137, zr_138, zr_139]
def zTg_7 : List zR := [zr_140, zr_141, zr_142, zr_143, zr_144, zr_145, zr_146, zr_147, zr_148, zr_149, zr_150, zr_151, zr_152, zr_153, zr_154, zr_155, zr_156, zr_157, zr_158, zr_159]
def zTg_8 : List zR := [zr_160, zr_161, zr_162, zr_163, zr_164, zr_165, zr_166, zr_167, zr_168, zr_169, zr_170, zr_171, zr_172, zr_173, zr_174, zr_175, zr_176, zr_177, zr_178, zr_179]
def zTg_9 : List zR := [zr_180, zr_181, zr_182, zr_183, zr_184, zr_185, zr_186, zr_187, zr_188, zr_189, zr_190, zr_191, zr_192, zr_193, zr_194, zr_195, zr_196, zr_197, zr_198, zr_199]
def zTg_10 : List zR := [zr_200, zr_201, zr_202, zr_203, zr_204]
def zT : List zR := zTg_0 ++ (zTg_1 ++ (zTg_2 ++ (zTg_3 ++ (zTg_4 ++ (zTg_5 ++ (zTg_6 ++ (zTg_7 ++ (zTg_8 ++ (zTg_9 ++ (zTg_10))))))))))
def zD : zR := (yL_law, ⟨#[]⟩, 0, none, 99, 0, 0, [])
def mE (m : Nat) : zR := zT.getD m zD
def mY (m : Nat) : MethodName := (mE m).1
def mB (m : Nat) : ByteArray := (mE m).2.1
def mL (m : Nat) : Nat := (mE m).2.2.1
def mR (m : Nat) : Option FieldType := (mE m).2.2.2.1
def mC (m : Nat) : Nat := (mE m).2.2.2.2.1
def mDep (m : Nat) : Nat := (mE m).2.2.2.2.2.1
def mLoc (m : Nat) : Nat := (mE m).2.2.2.2.2.2.1
def mCode (m : Nat) : List zE := (mE m).2.2.2.2.2.2.2
def zFind : List zE → Nat → Option (Instr × Nat × Nat × Int)
  | [], _ => none
  | e :: t, pc => if e.1 = pc then some e.2 else zFind t pc
def zcode (m pc : Nat) : Option (Instr × Nat × Nat × Int) := zFind (mCode m) pc
def zLen (pc : Nat) : Instr → Nat
  | .bipush _ | .ldc _ | .iload _ | .lload _ | .aload _ | .istore _ | .lstore _ | .astore _ | .newarray _ => 2
  | .sipush _ | .ldc2_w _ | .iinc _ _ | .goto _ | .ifCond _ _ | .if_icmp _ _ | .if_acmp _ _ | .getfield _ | .putfield _ | .getstatic _ | .new _ | .checkcast _ | .anewarray _ | .invokevirtual _ | .invokespecial _ | .invokestatic _ => 3
  | .multianewarray _ _ => 4
  | .tableswitch _ _ _ offs => 1 + (3 - pc % 4) + 12 + 4 * offs.size
  | _ => 1
def zPF : List (Nat × Nat × Nat × Nat × Nat) := [(0, 12, 0, 0, 0), (0, 18, 0, 1, 0), (0, 21, 0, 2, 0), (0, 25, 0, 3, 0), (0, 30, 0, 4, 0), (0, 34, 0, 5, 0), (0, 38, 0, 6, 0), (0, 53, 8, 0, 8), (0, 63, 8, 4, 8), (0, 67, 7, 0, 7), (1, 12, 1, 0, 1), (1, 18, 1, 1, 1), (1, 21, 1, 2, 1), (1, 25, 1, 3, 1), (1, 28, 1, 4, 1), (1, 50, 3, 2, 3), (1, 53, 3, 0, 3), (1, 68, 3, 3, 3), (1, 80, 3, 1, 3), (2, 9, 2, 0, 2), (2, 15, 2, 1, 2), (3, 10, 3, 0, 3), (3, 19, 3, 1, 3), (3, 23, 3, 2, 3), (3, 27, 3, 3, 3), (4, 12, 4, 0, 4), (4, 33, 0, 6, 0), (4, 37, 0, 0, 0), (4, 54, 8, 0, 8), (4, 62, 8, 1, 8), (5, 9, 5, 0, 5), (5, 15, 5, 1, 5), (5, 18, 5, 2, 5), (5, 22, 5, 3, 5), (5, 25, 5, 4, 5), (5, 28, 0, 1, 0), (5, 43, 0, 5, 0), (5, 46, 0, 2, 0), (5, 47, 0, 3, 0), (5, 50, 0, 0, 0), (5, 63, 8, 3, 8), (5, 70, 8, 4, 8), (5, 82, 8, 5, 8), (5, 91, 8, 2, 8), (5, 94, 2, 1, 2), (5, 95, 2, 0, 2), (6, 13, 6, 0, 6), (6, 16, 6, 1, 6), (6, 20, 6, 2, 6), (6, 23, 6, 3, 6), (6, 26, 6, 4, 6), (7, 11, 7, 0, 7), (7, 17, 7, 1, 7), (7, 21, 7, 2, 7), (7, 35, 2, 1, 2), (8, 11, 8, 4, 8), (8, 20, 8, 5, 8), (8, 24, 8, 6, 8), (8, 28, 8, 0, 8), (8, 31, 8, 1, 8), (8, 34, 8, 2, 8), (8, 37, 8, 3, 8), (8, 54, 2, 1, 2), (9, 12, 9, 0, 9), (9, 18, 9, 1, 9), (9, 22, 0, 1, 0), (9, 40, 2, 1, 2), (9, 43, 0, 5, 0), (9, 53, 0, 3, 0), (9, 57, 0, 2, 0), (9, 107, 0, 0, 0), (9, 116, 8, 3, 8), (9, 119, 8, 4, 8), (9, 127, 8, 5, 8), (9, 130, 8, 2, 8), (9, 133, 7, 1, 7), (9, 135, 7, 0, 7), (10, 12, 10, 0, 10), (10, 41, 8, 1, 8), (10, 45, 8, 2, 8), (10, 56, 8, 0, 8), (10, 59, 8, 6, 8), (10, 62, 8, 4, 8), (11, 12, 11, 0, 11), (11, 19, 11, 1, 11), (11, 26, 11, 2, 11), (11, 33, 11, 3, 11), (11, 40, 11, 4, 11), (11, 47, 11, 5, 11), (11, 54, 11, 6, 11), (11, 61, 11, 7, 11), (11, 65, 2, 1, 2), (11, 77, 8, 3, 8), (11, 94, 8, 1, 8), (11, 97, 8, 2, 8), (11, 100, 8, 6, 8), (11, 110, 8, 4, 8), (11, 127, 2, 0, 2), (11, 147, 0, 0, 0), (11, 163, 0, 1, 0), (11, 176, 0, 5, 0), (11, 179, 0, 6, 0), (11, 204, 6, 2, 6), (11, 219, 6, 1, 6), (11, 220, 6, 0, 6), (11, 228, 0, 4, 0), (11, 250, 1, 2, 1), (11, 256, 1, 0, 1), (11, 267, 3, 2, 3), (11, 269, 3, 1, 3), (11, 273, 7, 2, 7), (11, 276, 3, 3, 3), (11, 279, 7, 1, 7), (11, 284, 1, 3, 1), (11, 287, 6, 3, 6), (11, 288, 1, 4, 1), (11, 291, 6, 4, 6), (11, 297, 4, 0, 4), (12, 7, 12, 0, 12), (12, 13, 12, 1, 12), (12, 17, 12, 2, 12), (12, 20, 12, 3, 12), (12, 24, 12, 4, 12), (12, 27, 12, 5, 12), (12, 30, 12, 6, 12), (12, 33, 12, 7, 12), (12, 36, 12, 10, 12), (12, 39, 12, 11, 12), (12, 42, 12, 12, 12), (12, 45, 12, 13, 12), (12, 48, 12, 14, 12), (12, 51, 12, 15, 12), (12, 54, 12, 16, 12), (12, 57, 12, 17, 12), (12, 61, 12, 18, 12), (12, 64, 12, 19, 12), (12, 67, 12, 20, 12), (12, 70, 12, 22, 12), (12, 73, 12, 23, 12), (12, 77, 12, 24, 12), (12, 80, 12, 25, 12), (12, 83, 12, 26, 12), (12, 86, 12, 27, 12), (12, 89, 12, 28, 12), (12, 92, 12, 29, 12), (12, 95, 12, 30, 12), (12, 98, 12, 31, 12), (12, 101, 12, 33, 12), (12, 104, 12, 34, 12), (12, 107, 12, 35, 12), (12, 110, 12, 36, 12), (12, 113, 12, 41, 12), (12, 116, 12, 42, 12), (12, 119, 12, 44, 12), (12, 122, 12, 45, 12), (12, 125, 12, 47, 12), (12, 128, 12, 50, 12), (12, 131, 12, 51, 12), (12, 134, 12, 52, 12), (12, 137, 12, 53, 12), (12, 144, 12, 9, 12), (12, 151, 12, 8, 12), (12, 187, 12, 43, 12), (12, 193, 12, 46, 12), (12, 225, 12, 48, 12), (12, 228, 12, 49, 12), (12, 268, 12, 21, 12), (12, 277, 12, 39, 12), (12, 284, 12, 32, 12), (12, 299, 12, 37, 12), (12, 305, 12, 38, 12), (12, 311, 12, 40, 12), (13, 9, 13, 1, 13), (13, 48, 13, 2, 13), (13, 63, 13, 0, 13), (14, 7, 13, 0, 14)]
def zPI : List (Nat × Nat × Nat × Nat × Nat) := [(0, 3, 0, 5, 0), (0, 11, 184, 2, 0), (0, 42, 40, 3, 0), (0, 43, 187, 0, 0), (0, 47, 190, 0, 1), (0, 56, 61, 0, 1), (0, 60, 196, 0, 0), (0, 70, 17, 0, 1), (1, 3, 0, 5, 0), (1, 11, 184, 2, 0), (1, 31, 12, 0, 0), (1, 35, 47, 0, 0), (1, 41, 187, 0, 0), (1, 44, 190, 0, 1), (1, 57, 48, 0, 1), (1, 61, 194, 0, 1), (1, 64, 192, 0, 1), (1, 71, 188, 0, 0), (1, 75, 27, 3, 0), (1, 76, 28, 0, 1), (1, 84, 58, 0, 0), (1, 87, 11, 0, 0), (1, 90, 196, 0, 0), (2, 3, 0, 5, 0), (2, 19, 15, 0, 1), (2, 23, 19, 0, 0), (2, 26, 25, 0, 2), (3, 1, 0, 5, 0), (3, 9, 40, 3, 0), (3, 18, 55, 2, 0), (3, 31, 46, 0, 1), (3, 35, 47, 0, 0), (4, 3, 0, 5, 0), (4, 11, 184, 2, 0), (4, 18, 187, 0, 0), (4, 22, 190, 0, 1), (4, 28, 0, 2, 0), (4, 29, 192, 0, 1), (4, 42, 62, 0, 0), (4, 46, 108, 4, 1), (4, 50, 36, 0, 1), (4, 58, 1, 0, 1), (5, 3, 0, 5, 0), (5, 34, 187, 0, 0), (5, 39, 45, 0, 1), (5, 53, 190, 0, 1), (5, 59, 42, 0, 2), (5, 67, 43, 0, 2), (5, 74, 44, 0, 1), (5, 78, 63, 0, 1), (5, 85, 14, 0, 0), (5, 102, 49, 0, 1), (5, 106, 48, 0, 1), (6, 3, 0, 5, 0), (7, 3, 0, 5, 0), (7, 24, 13, 3, 0), (7, 25, 0, 9, 2), (7, 31, 57, 0, 1), (7, 38, 0, 8, 2), (8, 3, 0, 5, 0), (8, 19, 184, 2, 0), (8, 41, 13, 3, 0), (8, 42, 187, 0, 0), (8, 46, 190, 0, 1), (8, 50, 193, 0, 2), (8, 56, 108, 4, 1), (8, 60, 14, 0, 0), (9, 3, 0, 5, 0), (9, 11, 13, 3, 0), (9, 28, 187, 0, 0), (9, 34, 56, 0, 1), (9, 46, 66, 0, 4), (9, 50, 57, 0, 1), (9, 60, 68, 0, 3), (9, 64, 15, 0, 1), (9, 68, 69, 0, 3), (9, 71, 70, 0, 2), (9, 75, 71, 0, 3), (9, 78, 67, 0, 2), (9, 82, 19, 0, 0), (9, 85, 20, 0, 0), (9, 88, 22, 0, 1), (9, 91, 21, 0, 0), (9, 94, 23, 0, 1), (9, 97, 24, 0, 0), (9, 100, 26, 0, 1), (9, 103, 16, 0, 1), (9, 110, 190, 0, 1), (9, 123, 14, 0, 0), (9, 136, 17, 0, 1), (10, 3, 0, 5, 0), (10, 11, 184, 2, 0), (10, 18, 73, 0, 0), (10, 21, 196, 0, 0), (10, 26, 59, 2, 4), (10, 29, 192, 0, 1), (10, 33, 187, 0, 0), (10, 37, 190, 0, 1), (10, 48, 76, 0, 1), (10, 52, 60, 0, 1), (10, 66, 18, 0, 1), (10, 72, 17, 0, 1), (11, 3, 0, 5, 0), (11, 11, 72, 2, 0), (11, 18, 13, 3, 0), (11, 25, 29, 3, 0), (11, 32, 5, 3, 0), (11, 39, 64, 3, 0), (11, 46, 51, 3, 0), (11, 53, 40, 3, 0), (11, 60, 55, 2, 0), (11, 69, 75, 0, 1), (11, 73, 76, 0, 1), (11, 83, 77, 0, 2), (11, 87, 74, 0, 0), (11, 90, 78, 0, 3), (11, 103, 15, 0, 1), (11, 106, 110, 0, 2), (11, 114, 17, 0, 1), (11, 118, 107, 1, 1), (11, 121, 79, 0, 2), (11, 124, 109, 0, 2), (11, 131, 30, 0, 0), (11, 132, 33, 0, 0), (11, 134, 31, 0, 1), (11, 135, 32, 0, 1), (11, 138, 1, 0, 1), (11, 143, 37, 0, 2), (11, 151, 187, 0, 0), (11, 154, 192, 0, 1), (11, 157, 35, 0, 0), (11, 160, 38, 0, 2), (11, 166, 61, 0, 1), (11, 170, 2, 0, 2), (11, 173, 3, 0, 0), (11, 183, 181, 1, 1), (11, 189, 108, 1, 1), (11, 193, 34, 0, 0), (11, 197, 62, 0, 0), (11, 200, 36, 0, 1), (11, 207, 53, 0, 0), (11, 210, 39, 0, 1), (11, 213, 111, 0, 2), (11, 224, 41, 0, 2), (11, 232, 50, 0, 1), (11, 236, 47, 0, 0), (11, 239, 65, 0, 3), (11, 243, 4, 0, 2), (11, 247, 80, 0, 2), (11, 253, 11, 0, 0), (11, 261, 190, 0, 1), (11, 272, 58, 0, 0), (11, 281, 12, 0, 0), (11, 294, 73, 0, 0), (11, 300, 196, 0, 0), (11, 303, 6, 0, 0), (11, 304, 52, 0, 0), (11, 305, 7, 0, 1), (11, 308, 9, 0, 1), (11, 312, 8, 0, 1), (11, 316, 46, 0, 1), (11, 319, 54, 0, 4), (11, 322, 10, 0, 1), (12, 1, 0, 5, 0), (12, 140, 113, 1, 3), (12, 147, 114, 0, 1), (12, 156, 119, 0, 2), (12, 160, 120, 0, 1), (12, 163, 123, 0, 3), (12, 166, 124, 0, 3), (12, 170, 129, 0, 2), (12, 173, 130, 0, 1), (12, 177, 115, 0, 1), (12, 180, 133, 0, 3), (12, 184, 131, 0, 1), (12, 190, 139, 0, 1), (12, 196, 141, 0, 2), (12, 200, 140, 0, 1), (12, 203, 142, 0, 2), (12, 210, 143, 0, 2), (12, 213, 144, 1, 3), (12, 217, 146, 0, 5), (12, 221, 147, 0, 2), (12, 231, 150, 0, 1), (12, 234, 155, 0, 0), (12, 237, 156, 0, 0), (12, 240, 151, 0, 1), (12, 243, 159, 0, 0), (12, 247, 157, 0, 0), (12, 250, 160, 0, 1), (12, 253, 158, 0, 0), (12, 256, 154, 0, 1), (12, 259, 161, 0, 2), (12, 262, 152, 0, 2), (12, 265, 153, 0, 2), (12, 271, 164, 0, 0), (12, 274, 165, 0, 1), (12, 280, 166, 0, 1), (12, 287, 149, 0, 2), (12, 290, 167, 0, 0), (12, 293, 162, 0, 2), (12, 296, 168, 0, 1), (12, 302, 169, 0, 1), (12, 308, 163, 0, 2), (12, 314, 170, 0, 1), (12, 317, 171, 0, 0), (12, 320, 172, 0, 2), (12, 325, 178, 0, 0), (13, 1, 183, 2, 0), (13, 66, 198, 1, 2), (13, 69, 185, 0, 1), (13, 73, 201, 1, 3), (13, 79, 0, 8, 2), (13, 112, 0, 6, 5), (13, 118, 200, 1, 2), (13, 123, 189, 0, 1), (13, 129, 186, 0, 0), (13, 131, 191, 0, 3), (13, 135, 197, 0, 1), (13, 144, 195, 0, 2), (14, 1, 182, 2, 0), (15, 1, 0, 5, 0), (16, 86, 0, 7, 0), (16, 150, 0, 6, 5), (16, 300, 199, 1, 3), (16, 304, 0, 9, 2), (17, 105, 203, 1, 3), (19, 194, 0, 8, 2), (19, 201, 202, 1, 2), (24, 9, 81, 2, 0), (24, 12, 112, 2, 0), (24, 13, 82, 0, 3), (24, 17, 116, 0, 3), (24, 18, 83, 0, 2), (24, 22, 117, 0, 2), (24, 25, 84, 0, 2), (24, 29, 118, 0, 2), (24, 30, 85, 0, 2), (24, 33, 121, 0, 2), (24, 34, 86, 0, 2), (24, 37, 122, 0, 2), (24, 38, 87, 0, 1), (24, 42, 125, 0, 1), (24, 43, 88, 0, 2), (24, 46, 126, 0, 2), (24, 47, 89, 0, 3), (24, 51, 127, 0, 3), (24, 52, 90, 0, 0), (24, 56, 128, 0, 0), (24, 57, 91, 0, 2), (24, 60, 132, 0, 2), (24, 61, 92, 0, 2), (24, 64, 134, 0, 2), (24, 65, 93, 0, 3), (24, 68, 135, 0, 3), (24, 69, 94, 0, 1), (24, 72, 136, 0, 1), (24, 73, 95, 0, 2), (24, 76, 137, 0, 2), (24, 77, 96, 0, 2), (24, 80, 138, 0, 2), (24, 81, 97, 0, 2), (24, 84, 173, 0, 2), (24, 85, 98, 0, 2), (24, 88, 174, 0, 2), (24, 89, 99, 0, 2), (24, 92, 148, 0, 2), (24, 93, 100, 0, 2), (24, 97, 145, 0, 2), (24, 98, 101, 0, 1), (24, 101, 175, 0, 1), (24, 102, 102, 0, 1), (24, 105, 176, 0, 1), (24, 106, 103, 0, 2), (24, 109, 177, 0, 2), (24, 110, 104, 0, 0), (24, 113, 178, 0, 0), (24, 114, 105, 0, 1), (24, 117, 179, 0, 1), (24, 118, 106, 0, 0), (24, 121, 180, 0, 0)]
def zPC : List (Nat × Nat × Nat) := [(0, 9, 13), (0, 28, 5), (0, 51, 8), (1, 9, 13), (1, 48, 3), (3, 7, 5), (3, 16, 7), (4, 9, 13), (4, 26, 0), (4, 40, 8), (5, 57, 8), (7, 9, 2), (8, 9, 2), (8, 12, 8), (8, 17, 13), (9, 9, 2), (9, 114, 8), (10, 9, 13), (10, 24, 8), (11, 9, 10), (11, 16, 2), (11, 23, 4), (11, 30, 1), (11, 37, 9), (11, 44, 6), (11, 51, 5), (11, 58, 7), (11, 265, 3), (24, 7, 11), (24, 10, 12)]
def zPK : List (Nat × Nat × Int) := [(12, 60, 34000), (12, 76, 42925), (19, 200, 2147483639)]
def zPL : List (Nat × Nat × Int) := [(5, 98, 1469598103934665603), (5, 100, 1099511628211), (11, 217, -1), (11, 259, -9223372036854775808), (12, 154, 255), (12, 206, 1469598103934665603), (12, 208, 1099511628211), (12, 323, -9223372036854775808), (20, 314, 6148914691236517205), (20, 316, 3689348814741910323), (20, 318, 1085102592571150095), (24, 23, 4294967295)]
def zAN : List Cond := [.classLink "BuildCache$Path" 9 "BuildCache$Content", .classLink "java/util/Arrays" 2 "java/lang/Object", .classLink "java/util/ArrayList" 7 "java/lang/Object", .classLink "BuildCache$Outcome" 9 "BuildCache$Content", .classLink "BuildCache$Action" 28 "BuildCache$Key"]
/-- frames and words of a callee fit its caller's -/
def zRm (t : zR) (x : Nat) : Bool := decide (mDep x + 1 ≤ t.2.2.2.2.2.1 ∧ 8 + (mL x + 11) + mLoc x ≤ t.2.2.2.2.2.2.1 ∧ x < 204)
/-- what the program that wrote the code says of an entry, held against the pools -/
def zOk (t : zR) (e : zE) : Bool :=
  match e with
  | (_, .getfield n, x, y, _) | (_, .putfield n, x, y, _) => zPF.any (fun q => q.1 == t.2.2.2.2.1 && q.2.1 == n && q.2.2.1 == x && q.2.2.2.1 == y)
  | (_, .new n, x, _, _) => zPC.any (fun q => q.1 == t.2.2.2.2.1 && q.2.1 == n && q.2.2 == x) && decide (x < 14)
  | (_, .checkcast n, x, _, _) => zPC.any (fun q => q.1 == t.2.2.2.2.1 && q.2.1 == n && q.2.2 == x) && decide (x < 14)
  | (_, .newarray a, x, _, _) => decide (newarray.typeOf a = siteTy x)
  | (_, .anewarray n, x, _, _) => decide (.classLink (cNm t.2.2.2.2.1) n "BuildCache$Content" ∈ zAN ∧ (x = 6 ∨ x = 7)) || decide (.classLink (cNm t.2.2.2.2.1) n "BuildCache$Key" ∈ zAN ∧ x = 8) || decide (.classLink (cNm t.2.2.2.2.1) n "java/lang/Object" ∈ zAN ∧ x = 11)
  | (_, .multianewarray n _, _, _, _) => t.2.2.2.2.1 == 6 && n == 11
  | (_, .getstatic n, _, _, _) => t.2.2.2.2.1 == 13 && n == 39
  | (_, .ldc n, x, _, z) => if x = 0 then zPK.any (fun q => q.1 == t.2.2.2.2.1 && q.2.1 == n && q.2.2 == z) else t.2.2.2.2.1 == 16 && n == 110
  | (_, .ldc2_w n, _, _, z) => zPL.any (fun q => q.1 == t.2.2.2.2.1 && q.2.1 == n && q.2.2 == z)
  | (_, .invokevirtual n, x, y, z) => zPI.any (fun q => q.1 == t.2.2.2.2.1 && q.2.1 == n && q.2.2.1 == x && q.2.2.2.1 == y && (q.2.2.2.2 : Int) == z) && (if y = 7 then decide (1 ≤ t.2.2.2.2.2.1 ∧ 40 ≤ t.2.2.2.2.2.2.1) else y == 0 && zRm t x)
  | (_, .invokestatic n, x, y, z) => zPI.any (fun q => q.1 == t.2.2.2.2.1 && q.2.1 == n && q.2.2.1 == x && q.2.2.2.1 == y && (q.2.2.2.2 : Int) == z) && (if y = 6 ∨ y = 8 ∨ y = 9 then decide (1 ≤ t.2.2.2.2.2.1 ∧ 40 ≤ t.2.2.2.2.2.2.1) else (y == 1 || y == 4) && zRm t x)
  | (_, .invokespecial n, x, y, z) => zPI.any (fun q => q.1 == t.2.2.2.2.1 && q.2.1 == n && q.2.2.1 == x && q.2.2.2.1 == y && (q.2.2.2.2 : Int) == z) && (if y = 5 then decide (1 ≤ t.2.2.2.2.2.1 ∧ 40 ≤ t.2.2.2.2.2.2.1) else (y == 2 || y == 3) && zRm t x)
  | _ => true
end
section
def zDk (t : zR) : Bool := t.2.2.2.2.2.2.2.all (fun e => decide (decode t.2.1 e.1 = .ok (e.2.1, zLen e.1 e.2.1)))
def zOks (t : zR) : Bool := t.2.2.2.2.2.2.2.all (zOk t)
set_option maxRecDepth 100000 in
theorem dk_0 : zDk zr_0 = true ∧ zOks zr_0 = true := ⟨by decide +kernel, by decide +kernel⟩
set_option maxRecDepth 100000 in
theorem dk_1 : zDk zr_1 = true ∧ zOks zr_1 = true := ⟨by decide +kernel, by decide +kernel⟩
set_option maxRecDepth 100000 in
theorem dk_2 : zDk zr_2 = true ∧ zOks zr_2 = true := ⟨by decide +kernel, by decide +kernel⟩
set_option maxRecDepth 100000 in
theorem dk_3 : zDk zr_3 = true ∧ zOks zr_3 = true := ⟨by decide +kernel, by decide +kernel⟩
set_option maxRecDepth 100000 in
theorem dk_4 : zDk zr_4 = true ∧ zOks zr_4 = true := ⟨by decide +kernel, by decide +kernel⟩
set_option maxRecDepth 100000 in
theorem dk_5 : zDk zr_5 = true ∧ zOks zr_5 = true := ⟨by decide +kernel, by decide +kernel⟩
set_option maxRecDepth 100000 in
theorem dk_6 : zDk zr_6 = true ∧ zOks zr_6 = true := ⟨by decide +kernel, by decide +kernel⟩
set_option maxRecDepth 100000 in
theorem dk_7 : zDk zr_7 = true ∧ zOks zr_7 = true := ⟨by decide +kernel, by decide +kernel⟩
set_option maxRecDepth 100000 in
theorem dk_8 : zDk zr_8 = true ∧ zOks zr_8 = true := ⟨by decide +kernel, by decide +kernel⟩
set_option maxRecDepth 100000 in
theorem dk_9 : zDk zr_9 = true ∧ zOks zr_9 = true := ⟨by decide +kernel, by decide +kernel⟩
set_option maxRecDepth 100000 in
theorem dk_10 : zDk zr_10 = true ∧ zOks zr_10 = true := ⟨by decide +kernel, by decide +kernel⟩
set_option maxRecDepth 100000 in
theorem dk_11 : zDk zr_11 = true ∧ zOks zr_11 = true := ⟨by decide +kernel, by decide +kernel⟩
set_option maxRecDepth 100000 in
theorem dk_12 : zDk zr_12 = true ∧ zOks zr_12 = true := ⟨by decide +kernel, by decide +kernel⟩
set_option maxRecDepth 100000 in
theorem dk_13 : zDk zr_13 = true ∧ zOks zr_13 = true := ⟨by decide +kernel, by decide +kernel⟩
set_option maxRecDepth 100000 in
theorem dk_14 : zDk zr_14 = true ∧ zOks zr_14 = true := ⟨by decide +kernel, by decide +kernel⟩
set_option maxRecDepth 100000 in
theorem dk_15 : zDk zr_15 = true ∧ zOks zr_15 = true := ⟨by decide +kernel, by decide +kernel⟩
set_option maxRecDepth 100000 in
theorem dk_16 : zDk zr_16 = true ∧ zOks zr_16 = true := ⟨by decide +kernel, by decide +kernel⟩
set_option maxRecDepth 100000 in
theorem dk_17 : zDk zr_17 = true ∧ zOks zr_17 = true := ⟨by decide +kernel, by decide +kernel⟩
set_option maxRecDepth 100000 in
theorem dk_18 : zDk zr_18 = true ∧ zOks zr_18 = true := ⟨by decide +kernel, by decide +kernel⟩
set_option maxRecDepth 100000 in
theorem dk_19 : zDk zr_19 = true ∧ zOks zr_19 = true := ⟨by decide +kernel, by decide +kernel⟩
set_option maxRecDepth 100000 in
theorem dk_20 : zDk zr_20 = true ∧ zOks zr_20 = true := ⟨by decide +kernel, by decide +kernel⟩
set_option maxRecDepth 100000 in
theorem dk_21 : zDk zr_21 = true ∧ zOks zr_21 = true := ⟨by decide +kernel, by decide +kernel⟩
set_option maxRecDepth 100000 in
theorem dk_22 : zDk zr_22 = true ∧ zOks zr_22 = true := ⟨by decide +kernel, by decide +kernel⟩
set_option maxRecDepth 100000 in
theorem dk_23 : zDk zr_23 = true ∧ zOks zr_23 = true := ⟨by decide +kernel, by decide +kernel⟩
set_option maxRecDepth 100000 in
theorem dk_24 : zDk zr_24 = true ∧ zOks zr_24 = true := ⟨by decide +kernel, by decide +kernel⟩
set_option maxRecDepth 100000 in
theorem dk_25 : zDk zr_25 = true ∧ zOks zr_25 = true := ⟨by decide +kernel, by decide +kernel⟩
set_option maxRecDepth 100000 in
theorem dk_26 : zDk zr_26 = true ∧ zOks zr_26 = true := ⟨by decide +kernel, by decide +kernel⟩
set_option maxRecDepth 100000 in
theorem dk_27 : zDk zr_27 = true ∧ zOks zr_27 = true := ⟨by decide +kernel, by decide +kernel⟩
set_option maxRecDepth 100000 in
theorem dk_28 : zDk zr_28 = true ∧ zOks zr_28 = true := ⟨by decide +kernel, by decide +kernel⟩
set_option maxRecDepth 100000 in
theorem dk_29 : zDk zr_29 = true ∧ zOks zr_29 = true := ⟨by decide +kernel, by decide +kernel⟩
set_option maxRecDepth 100000 in
theorem dk_30 : zDk zr_30 = true ∧ zOks zr_30 = true := ⟨by decide +kernel, by decide +kernel⟩
set_option maxRecDepth 100000 in
theorem dk_31 : zDk zr_31 = true ∧ zOks zr_31 = true := ⟨by decide +kernel, by decide +kernel⟩
set_option maxRecDepth 100000 in
theorem dk_32 : zDk zr_32 = true ∧ zOks zr_32 = true := ⟨by decide +kernel, by decide +kernel⟩
set_option maxRecDepth 100000 in
theorem dk_33 : zDk zr_33 = true ∧ zOks zr_33 = true := ⟨by decide +kernel, by decide +kernel⟩
set_option maxRecDepth 100000 in
theorem dk_34 : zDk zr_34 = true ∧ zOks zr_34 = true := ⟨by decide +kernel, by decide +kernel⟩
set_option maxRecDepth 100000 in
theorem dk_35 : zDk zr_35 = true ∧ zOks zr_35 = true := ⟨by decide +kernel, by decide +kernel⟩
set_option maxRecDepth 100000 in
theorem dk_36 : zDk zr_36 = true ∧ zOks zr_36 = true := ⟨by decide +kernel, by decide +kernel⟩
set_option maxRecDepth 100000 in
theorem dk_37 : zDk zr_37 = true ∧ zOks zr_37 = true := ⟨by decide +kernel, by decide +kernel⟩
set_option maxRecDepth 100000 in
theorem dk_38 : zDk zr_38 = true ∧ zOks zr_38 = true := ⟨by decide +kernel, by decide +kernel⟩
set_option maxRecDepth 100000 in
theorem dk_39 : zDk zr_39 = true ∧ zOks zr_39 = true := ⟨by decide +kernel, by decide +kernel⟩
set_option maxRecDepth 100000 in
theorem dk_40 : zDk zr_40 = true ∧ zOks zr_40 = true := ⟨by decide +kernel, by decide +kernel⟩
set_option maxRecDepth 100000 in
theorem dk_41 : zDk zr_41 = true ∧ zOks zr_41 = true := ⟨by decide +kernel, by decide +kernel⟩
set_option maxRecDepth 100000 in
theorem dk_42 : zDk zr_42 = true ∧ zOks zr_42 = true := ⟨by decide +kernel, by decide +kernel⟩
set_option maxRecDepth 100000 in
theorem dk_43 : zDk zr_43 = true ∧ zOks zr_43 = true := ⟨by decide +kernel, by decide +kernel⟩
set_option maxRecDepth 100000 in
theorem dk_44 : zDk zr_44 = true ∧ zOks zr_44 = true := ⟨by decide +kernel, by decide +kernel⟩
set_option maxRecDepth 100000 in
theorem dk_45 : zDk zr_45 = true ∧ zOks zr_45 = true := ⟨by decide +kernel, by decide +kernel⟩
set_option maxRecDepth 100000 in
theorem dk_46 : zDk zr_46 = true ∧ zOks zr_46 = true := ⟨by decide +kernel, by decide +kernel⟩
set_option maxRecDepth 100000 in
theorem dk_47 : zDk zr_47 = true ∧ zOks zr_47 = true := ⟨by decide +kernel, by decide +kernel⟩
set_option maxRecDepth 100000 in
theorem dk_48 : zDk zr_48 = true ∧ zOks zr_48 = true := ⟨by decide +kernel, by decide +kernel⟩
set_option maxRecDepth 100000 in
theorem dk_49 : zDk zr_49 = true ∧ zOks zr_49 = true := ⟨by decide +kernel, by decide +kernel⟩
set_option maxRecDepth 100000 in
theorem dk_50 : zDk zr_50 = true ∧ zOks zr_50 = true := ⟨by decide +kernel, by decide +kernel⟩
set_option maxRecDepth 100000 in
theorem dk_51 : zDk zr_51 = true ∧ zOks zr_51 = true := ⟨by decide +kernel, by decide +kernel⟩
set_option maxRecDepth 100000 in
theorem dk_52 : zDk zr_52 = true ∧ zOks zr_52 = true := ⟨by decide +kernel, by decide +kernel⟩
set_option maxRecDepth 100000 in
theorem dk_53 : zDk zr_53 = true ∧ zOks zr_53 = true := ⟨by decide +kernel, by decide +kernel⟩
set_option maxRecDepth 100000 in
theorem dk_54 : zDk zr_54 = true ∧ zOks zr_54 = true := ⟨by decide +kernel, by decide +kernel⟩
set_option maxRecDepth 100000 in
theorem dk_55 : zDk zr_55 = true ∧ zOks zr_55 = true := ⟨by decide +kernel, by decide +kernel⟩
set_option maxRecDepth 100000 in
theorem dk_56 : zDk zr_56 = true ∧ zOks zr_56 = true := ⟨by decide +kernel, by decide +kernel⟩
set_option maxRecDepth 100000 in
theorem dk_57 : zDk zr_57 = true ∧ zOks zr_57 = true := ⟨by decide +kernel, by decide +kernel⟩
set_option maxRecDepth 100000 in
theorem dk_58 : zDk zr_58 = true ∧ zOks zr_58 = true := ⟨by decide +kernel, by decide +kernel⟩
set_option maxRecDepth 100000 in
theorem dk_59 : zDk zr_59 = true ∧ zOks zr_59 = true := ⟨by decide +kernel, by decide +kernel⟩
set_option maxRecDepth 100000 in
theorem dk_60 : zDk zr_60 = true ∧ zOks zr_60 = true := ⟨by decide +kernel, by decide +kernel⟩
set_option maxRecDepth 100000 in
theorem dk_61 : zDk zr_61 = true ∧ zOks zr_61 = true := ⟨by decide +kernel, by decide +kernel⟩
set_option maxRecDepth 100000 in
theorem dk_62 : zDk zr_62 = true ∧ zOks zr_62 = true := ⟨by decide +kernel, by decide +kernel⟩
set_option maxRecDepth 100000 in
theorem dk_63 : zDk zr_63 = true ∧ zOks zr_63 = true := ⟨by decide +kernel, by decide +kernel⟩
set_option maxRecDepth 100000 in
theorem dk_64 : zDk zr_64 = true ∧ zOks zr_64 = true := ⟨by decide +kernel, by decide +kernel⟩
set_option maxRecDepth 100000 in
theorem dk_65 : zDk zr_65 = true ∧ zOks zr_65 = true := ⟨by decide +kernel, by decide +kernel⟩
set_option maxRecDepth 100000 in
theorem dk_66 : zDk zr_66 = true ∧ zOks zr_66 = true := ⟨by decide +kernel, by decide +kernel⟩
set_option maxRecDepth 100000 in
theorem dk_67 : zDk zr_67 = true ∧ zOks zr_67 = true := ⟨by decide +kernel, by decide +kernel⟩
set_option maxRecDepth 100000 in
theorem dk_68 : zDk zr_68 = true ∧ zOks zr_68 = true := ⟨by decide +kernel, by decide +kernel⟩
set_option maxRecDepth 100000 in
theorem dk_69 : zDk zr_69 = true ∧ zOks zr_69 = true := ⟨by decide +kernel, by decide +kernel⟩
set_option maxRecDepth 100000 in
theorem dk_70 : zDk zr_70 = true ∧ zOks zr_70 = true := ⟨by decide +kernel, by decide +kernel⟩
set_option maxRecDepth 100000 in
theorem dk_71 : zDk zr_71 = true ∧ zOks zr_71 = true := ⟨by decide +kernel, by decide +kernel⟩
set_option maxRecDepth 100000 in
theorem dk_72 : zDk zr_72 = true ∧ zOks zr_72 = true := ⟨by decide +kernel, by decide +kernel⟩
set_option maxRecDepth 100000 in
theorem dk_73 : zDk zr_73 = true ∧ zOks zr_73 = true := ⟨by decide +kernel, by decide +kernel⟩
set_option maxRecDepth 100000 in
theorem dk_74 : zDk zr_74 = true ∧ zOks zr_74 = true := ⟨by decide +kernel, by decide +kernel⟩
set_option maxRecDepth 100000 in
theorem dk_75 : zDk zr_75 = true ∧ zOks zr_75 = true := ⟨by decide +kernel, by decide +kernel⟩
set_option maxRecDepth 100000 in
theorem dk_76 : zDk zr_76 = true ∧ zOks zr_76 = true := ⟨by decide +kernel, by decide +kernel⟩
set_option maxRecDepth 100000 in
theorem dk_77 : zDk zr_77 = true ∧ zOks zr_77 = true := ⟨by decide +kernel, by decide +kernel⟩
set_option maxRecDepth 100000 in
theorem dk_78 : zDk zr_78 = true ∧ zOks zr_78 = true := ⟨by decide +kernel, by decide +kernel⟩
set_option maxRecDepth 100000 in
theorem dk_79 : zDk zr_79 = true ∧ zOks zr_79 = true := ⟨by decide +kernel, by decide +kernel⟩
set_option maxRecDepth 100000 in
theorem dk_80 : zDk zr_80 = true ∧ zOks zr_80 = true := ⟨by decide +kernel, by decide +kernel⟩
set_option maxRecDepth 100000 in
theorem dk_81 : zDk zr_81 = true ∧ zOks zr_81 = true := ⟨by decide +kernel, by decide +kernel⟩
end
section
set_option maxRecDepth 100000 in
theorem dk_82 : zDk zr_82 = true ∧ zOks zr_82 = true := ⟨by decide +kernel, by decide +kernel⟩
set_option maxRecDepth 100000 in
theorem dk_83 : zDk zr_83 = true ∧ zOks zr_83 = true := ⟨by decide +kernel, by decide +kernel⟩
set_option maxRecDepth 100000 in
theorem dk_84 : zDk zr_84 = true ∧ zOks zr_84 = true := ⟨by decide +kernel, by decide +kernel⟩
set_option maxRecDepth 100000 in
theorem dk_85 : zDk zr_85 = true ∧ zOks zr_85 = true := ⟨by decide +kernel, by decide +kernel⟩
set_option maxRecDepth 100000 in
theorem dk_86 : zDk zr_86 = true ∧ zOks zr_86 = true := ⟨by decide +kernel, by decide +kernel⟩
set_option maxRecDepth 100000 in
theorem dk_87 : zDk zr_87 = true ∧ zOks zr_87 = true := ⟨by decide +kernel, by decide +kernel⟩
set_option maxRecDepth 100000 in
theorem dk_88 : zDk zr_88 = true ∧ zOks zr_88 = true := ⟨by decide +kernel, by decide +kernel⟩
set_option maxRecDepth 100000 in
theorem dk_89 : zDk zr_89 = true ∧ zOks zr_89 = true := ⟨by decide +kernel, by decide +kernel⟩
set_option maxRecDepth 100000 in
theorem dk_90 : zDk zr_90 = true ∧ zOks zr_90 = true := ⟨by decide +kernel, by decide +kernel⟩
set_option maxRecDepth 100000 in
theorem dk_91 : zDk zr_91 = true ∧ zOks zr_91 = true := ⟨by decide +kernel, by decide +kernel⟩
set_option maxRecDepth 100000 in
theorem dk_92 : zDk zr_92 = true ∧ zOks zr_92 = true := ⟨by decide +kernel, by decide +kernel⟩
set_option maxRecDepth 100000 in
theorem dk_93 : zDk zr_93 = true ∧ zOks zr_93 = true := ⟨by decide +kernel, by decide +kernel⟩
set_option maxRecDepth 100000 in
theorem dk_94 : zDk zr_94 = true ∧ zOks zr_94 = true := ⟨by decide +kernel, by decide +kernel⟩
set_option maxRecDepth 100000 in
theorem dk_95 : zDk zr_95 = true ∧ zOks zr_95 = true := ⟨by decide +kernel, by decide +kernel⟩
set_option maxRecDepth 100000 in
theorem dk_96 : zDk zr_96 = true ∧ zOks zr_96 = true := ⟨by decide +kernel, by decide +kernel⟩
set_option maxRecDepth 100000 in
theorem dk_97 : zDk zr_97 = true ∧ zOks zr_97 = true := ⟨by decide +kernel, by decide +kernel⟩
set_option maxRecDepth 100000 in
theorem dk_98 : zDk zr_98 = true ∧ zOks zr_98 = true := ⟨by decide +kernel, by decide +kernel⟩
set_option maxRecDepth 100000 in
theorem dk_99 : zDk zr_99 = true ∧ zOks zr_99 = true := ⟨by decide +kernel, by decide +kernel⟩
set_option maxRecDepth 100000 in
theorem dk_100 : zDk zr_100 = true ∧ zOks zr_100 = true := ⟨by decide +kernel, by decide +kernel⟩
set_option maxRecDepth 100000 in
theorem dk_101 : zDk zr_101 = true ∧ zOks zr_101 = true := ⟨by decide +kernel, by decide +kernel⟩
set_option maxRecDepth 100000 in
theorem dk_102 : zDk zr_102 = true ∧ zOks zr_102 = true := ⟨by decide +kernel, by decide +kernel⟩
set_option maxRecDepth 100000 in
theorem dk_103 : zDk zr_103 = true ∧ zOks zr_103 = true := ⟨by decide +kernel, by decide +kernel⟩
set_option maxRecDepth 100000 in
theorem dk_104 : zDk zr_104 = true ∧ zOks zr_104 = true := ⟨by decide +kernel, by decide +kernel⟩
set_option maxRecDepth 100000 in
theorem dk_105 : zDk zr_105 = true ∧ zOks zr_105 = true := ⟨by decide +kernel, by decide +kernel⟩
set_option maxRecDepth 100000 in
theorem dk_106 : zDk zr_106 = true ∧ zOks zr_106 = true := ⟨by decide +kernel, by decide +kernel⟩
set_option maxRecDepth 100000 in
theorem dk_107 : zDk zr_107 = true ∧ zOks zr_107 = true := ⟨by decide +kernel, by decide +kernel⟩
set_option maxRecDepth 100000 in
theorem dk_108 : zDk zr_108 = true ∧ zOks zr_108 = true := ⟨by decide +kernel, by decide +kernel⟩
set_option maxRecDepth 100000 in
theorem dk_109 : zDk zr_109 = true ∧ zOks zr_109 = true := ⟨by decide +kernel, by decide +kernel⟩
set_option maxRecDepth 100000 in
theorem dk_110 : zDk zr_110 = true ∧ zOks zr_110 = true := ⟨by decide +kernel, by decide +kernel⟩
set_option maxRecDepth 100000 in
theorem dk_111 : zDk zr_111 = true ∧ zOks zr_111 = true := ⟨by decide +kernel, by decide +kernel⟩
set_option maxRecDepth 100000 in
theorem dk_112 : zDk zr_112 = true ∧ zOks zr_112 = true := ⟨by decide +kernel, by decide +kernel⟩
set_option maxRecDepth 100000 in
theorem dk_113 : zDk zr_113 = true ∧ zOks zr_113 = true := ⟨by decide +kernel, by decide +kernel⟩
set_option maxRecDepth 100000 in
theorem dk_114 : zDk zr_114 = true ∧ zOks zr_114 = true := ⟨by decide +kernel, by decide +kernel⟩
set_option maxRecDepth 100000 in
theorem dk_115 : zDk zr_115 = true ∧ zOks zr_115 = true := ⟨by decide +kernel, by decide +kernel⟩
set_option maxRecDepth 100000 in
theorem dk_116 : zDk zr_116 = true ∧ zOks zr_116 = true := ⟨by decide +kernel, by decide +kernel⟩
set_option maxRecDepth 100000 in
theorem dk_117 : zDk zr_117 = true ∧ zOks zr_117 = true := ⟨by decide +kernel, by decide +kernel⟩
set_option maxRecDepth 100000 in
theorem dk_118 : zDk zr_118 = true ∧ zOks zr_118 = true := ⟨by decide +kernel, by decide +kernel⟩
set_option maxRecDepth 100000 in
theorem dk_119 : zDk zr_119 = true ∧ zOks zr_119 = true := ⟨by decide +kernel, by decide +kernel⟩
set_option maxRecDepth 100000 in
theorem dk_120 : zDk zr_120 = true ∧ zOks zr_120 = true := ⟨by decide +kernel, by decide +kernel⟩
set_option maxRecDepth 100000 in
theorem dk_121 : zDk zr_121 = true ∧ zOks zr_121 = true := ⟨by decide +kernel, by decide +kernel⟩
set_option maxRecDepth 100000 in
theorem dk_122 : zDk zr_122 = true ∧ zOks zr_122 = true := ⟨by decide +kernel, by decide +kernel⟩
set_option maxRecDepth 100000 in
theorem dk_123 : zDk zr_123 = true ∧ zOks zr_123 = true := ⟨by decide +kernel, by decide +kernel⟩
set_option maxRecDepth 100000 in
theorem dk_124 : zDk zr_124 = true ∧ zOks zr_124 = true := ⟨by decide +kernel, by decide +kernel⟩
set_option maxRecDepth 100000 in
theorem dk_125 : zDk zr_125 = true ∧ zOks zr_125 = true := ⟨by decide +kernel, by decide +kernel⟩
set_option maxRecDepth 100000 in
theorem dk_126 : zDk zr_126 = true ∧ zOks zr_126 = true := ⟨by decide +kernel, by decide +kernel⟩
set_option maxRecDepth 100000 in
theorem dk_127 : zDk zr_127 = true ∧ zOks zr_127 = true := ⟨by decide +kernel, by decide +kernel⟩
set_option maxRecDepth 100000 in
theorem dk_128 : zDk zr_128 = true ∧ zOks zr_128 = true := ⟨by decide +kernel, by decide +kernel⟩
set_option maxRecDepth 100000 in
theorem dk_129 : zDk zr_129 = true ∧ zOks zr_129 = true := ⟨by decide +kernel, by decide +kernel⟩
set_option maxRecDepth 100000 in
theorem dk_130 : zDk zr_130 = true ∧ zOks zr_130 = true := ⟨by decide +kernel, by decide +kernel⟩
set_option maxRecDepth 100000 in
theorem dk_131 : zDk zr_131 = true ∧ zOks zr_131 = true := ⟨by decide +kernel, by decide +kernel⟩
set_option maxRecDepth 100000 in
theorem dk_132 : zDk zr_132 = true ∧ zOks zr_132 = true := ⟨by decide +kernel, by decide +kernel⟩
set_option maxRecDepth 100000 in
theorem dk_133 : zDk zr_133 = true ∧ zOks zr_133 = true := ⟨by decide +kernel, by decide +kernel⟩
set_option maxRecDepth 100000 in
theorem dk_134 : zDk zr_134 = true ∧ zOks zr_134 = true := ⟨by decide +kernel, by decide +kernel⟩
set_option maxRecDepth 100000 in
theorem dk_135 : zDk zr_135 = true ∧ zOks zr_135 = true := ⟨by decide +kernel, by decide +kernel⟩
set_option maxRecDepth 100000 in
theorem dk_136 : zDk zr_136 = true ∧ zOks zr_136 = true := ⟨by decide +kernel, by decide +kernel⟩
set_option maxRecDepth 100000 in
theorem dk_137 : zDk zr_137 = true ∧ zOks zr_137 = true := ⟨by decide +kernel, by decide +kernel⟩
set_option maxRecDepth 100000 in
theorem dk_138 : zDk zr_138 = true ∧ zOks zr_138 = true := ⟨by decide +kernel, by decide +kernel⟩
set_option maxRecDepth 100000 in
theorem dk_139 : zDk zr_139 = true ∧ zOks zr_139 = true := ⟨by decide +kernel, by decide +kernel⟩
set_option maxRecDepth 100000 in
theorem dk_140 : zDk zr_140 = true ∧ zOks zr_140 = true := ⟨by decide +kernel, by decide +kernel⟩
set_option maxRecDepth 100000 in
theorem dk_141 : zDk zr_141 = true ∧ zOks zr_141 = true := ⟨by decide +kernel, by decide +kernel⟩
set_option maxRecDepth 100000 in
theorem dk_142 : zDk zr_142 = true ∧ zOks zr_142 = true := ⟨by decide +kernel, by decide +kernel⟩
set_option maxRecDepth 100000 in
theorem dk_143 : zDk zr_143 = true ∧ zOks zr_143 = true := ⟨by decide +kernel, by decide +kernel⟩
set_option maxRecDepth 100000 in
theorem dk_144 : zDk zr_144 = true ∧ zOks zr_144 = true := ⟨by decide +kernel, by decide +kernel⟩
set_option maxRecDepth 100000 in
theorem dk_145 : zDk zr_145 = true ∧ zOks zr_145 = true := ⟨by decide +kernel, by decide +kernel⟩
set_option maxRecDepth 100000 in
theorem dk_146 : zDk zr_146 = true ∧ zOks zr_146 = true := ⟨by decide +kernel, by decide +kernel⟩
set_option maxRecDepth 100000 in
theorem dk_147 : zDk zr_147 = true ∧ zOks zr_147 = true := ⟨by decide +kernel, by decide +kernel⟩
set_option maxRecDepth 100000 in
theorem dk_148 : zDk zr_148 = true ∧ zOks zr_148 = true := ⟨by decide +kernel, by decide +kernel⟩
set_option maxRecDepth 100000 in
theorem dk_149 : zDk zr_149 = true ∧ zOks zr_149 = true := ⟨by decide +kernel, by decide +kernel⟩
set_option maxRecDepth 100000 in
theorem dk_150 : zDk zr_150 = true ∧ zOks zr_150 = true := ⟨by decide +kernel, by decide +kernel⟩
set_option maxRecDepth 100000 in
theorem dk_151 : zDk zr_151 = true ∧ zOks zr_151 = true := ⟨by decide +kernel, by decide +kernel⟩
set_option maxRecDepth 100000 in
theorem dk_152 : zDk zr_152 = true ∧ zOks zr_152 = true := ⟨by decide +kernel, by decide +kernel⟩
end
section
set_option maxRecDepth 100000 in
theorem dk_153 : zDk zr_153 = true ∧ zOks zr_153 = true := ⟨by decide +kernel, by decide +kernel⟩
set_option maxRecDepth 100000 in
theorem dk_154 : zDk zr_154 = true ∧ zOks zr_154 = true := ⟨by decide +kernel, by decide +kernel⟩
set_option maxRecDepth 100000 in
theorem dk_155 : zDk zr_155 = true ∧ zOks zr_155 = true := ⟨by decide +kernel, by decide +kernel⟩
set_option maxRecDepth 100000 in
theorem dk_156 : zDk zr_156 = true ∧ zOks zr_156 = true := ⟨by decide +kernel, by decide +kernel⟩
set_option maxRecDepth 100000 in
theorem dk_157 : zDk zr_157 = true ∧ zOks zr_157 = true := ⟨by decide +kernel, by decide +kernel⟩
set_option maxRecDepth 100000 in
theorem dk_158 : zDk zr_158 = true ∧ zOks zr_158 = true := ⟨by decide +kernel, by decide +kernel⟩
set_option maxRecDepth 100000 in
theorem dk_159 : zDk zr_159 = true ∧ zOks zr_159 = true := ⟨by decide +kernel, by decide +kernel⟩
set_option maxRecDepth 100000 in
theorem dk_160 : zDk zr_160 = true ∧ zOks zr_160 = true := ⟨by decide +kernel, by decide +kernel⟩
set_option maxRecDepth 100000 in
theorem dk_161 : zDk zr_161 = true ∧ zOks zr_161 = true := ⟨by decide +kernel, by decide +kernel⟩
set_option maxRecDepth 100000 in
theorem dk_162 : zDk zr_162 = true ∧ zOks zr_162 = true := ⟨by decide +kernel, by decide +kernel⟩
set_option maxRecDepth 100000 in
theorem dk_163 : zDk zr_163 = true ∧ zOks zr_163 = true := ⟨by decide +kernel, by decide +kernel⟩
set_option maxRecDepth 100000 in
theorem dk_164 : zDk zr_164 = true ∧ zOks zr_164 = true := ⟨by decide +kernel, by decide +kernel⟩
set_option maxRecDepth 100000 in
theorem dk_165 : zDk zr_165 = true ∧ zOks zr_165 = true := ⟨by decide +kernel, by decide +kernel⟩
set_option maxRecDepth 100000 in
theorem dk_166 : zDk zr_166 = true ∧ zOks zr_166 = true := ⟨by decide +kernel, by decide +kernel⟩
set_option maxRecDepth 100000 in
theorem dk_167 : zDk zr_167 = true ∧ zOks zr_167 = true := ⟨by decide +kernel, by decide +kernel⟩
set_option maxRecDepth 100000 in
theorem dk_168 : zDk zr_168 = true ∧ zOks zr_168 = true := ⟨by decide +kernel, by decide +kernel⟩
set_option maxRecDepth 100000 in
theorem dk_169 : zDk zr_169 = true ∧ zOks zr_169 = true := ⟨by decide +kernel, by decide +kernel⟩
set_option maxRecDepth 100000 in
theorem dk_170 : zDk zr_170 = true ∧ zOks zr_170 = true := ⟨by decide +kernel, by decide +kernel⟩
set_option maxRecDepth 100000 in
theorem dk_171 : zDk zr_171 = true ∧ zOks zr_171 = true := ⟨by decide +kernel, by decide +kernel⟩
set_option maxRecDepth 100000 in
theorem dk_172 : zDk zr_172 = true ∧ zOks zr_172 = true := ⟨by decide +kernel, by decide +kernel⟩
set_option maxRecDepth 100000 in
theorem dk_173 : zDk zr_173 = true ∧ zOks zr_173 = true := ⟨by decide +kernel, by decide +kernel⟩
set_option maxRecDepth 100000 in
theorem dk_174 : zDk zr_174 = true ∧ zOks zr_174 = true := ⟨by decide +kernel, by decide +kernel⟩
set_option maxRecDepth 100000 in
theorem dk_175 : zDk zr_175 = true ∧ zOks zr_175 = true := ⟨by decide +kernel, by decide +kernel⟩
set_option maxRecDepth 100000 in
theorem dk_176 : zDk zr_176 = true ∧ zOks zr_176 = true := ⟨by decide +kernel, by decide +kernel⟩
set_option maxRecDepth 100000 in
theorem dk_177 : zDk zr_177 = true ∧ zOks zr_177 = true := ⟨by decide +kernel, by decide +kernel⟩
set_option maxRecDepth 100000 in
theorem dk_178 : zDk zr_178 = true ∧ zOks zr_178 = true := ⟨by decide +kernel, by decide +kernel⟩
set_option maxRecDepth 100000 in
theorem dk_179 : zDk zr_179 = true ∧ zOks zr_179 = true := ⟨by decide +kernel, by decide +kernel⟩
set_option maxRecDepth 100000 in
theorem dk_180 : zDk zr_180 = true ∧ zOks zr_180 = true := ⟨by decide +kernel, by decide +kernel⟩
set_option maxRecDepth 100000 in
theorem dk_181 : zDk zr_181 = true ∧ zOks zr_181 = true := ⟨by decide +kernel, by decide +kernel⟩
set_option maxRecDepth 100000 in
theorem dk_182 : zDk zr_182 = true ∧ zOks zr_182 = true := ⟨by decide +kernel, by decide +kernel⟩
set_option maxRecDepth 100000 in
theorem dk_183 : zDk zr_183 = true ∧ zOks zr_183 = true := ⟨by decide +kernel, by decide +kernel⟩
set_option maxRecDepth 100000 in
theorem dk_184 : zDk zr_184 = true ∧ zOks zr_184 = true := ⟨by decide +kernel, by decide +kernel⟩
set_option maxRecDepth 100000 in
theorem dk_185 : zDk zr_185 = true ∧ zOks zr_185 = true := ⟨by decide +kernel, by decide +kernel⟩
set_option maxRecDepth 100000 in
theorem dk_186 : zDk zr_186 = true ∧ zOks zr_186 = true := ⟨by decide +kernel, by decide +kernel⟩
set_option maxRecDepth 100000 in
theorem dk_187 : zDk zr_187 = true ∧ zOks zr_187 = true := ⟨by decide +kernel, by decide +kernel⟩
set_option maxRecDepth 100000 in
theorem dk_188 : zDk zr_188 = true ∧ zOks zr_188 = true := ⟨by decide +kernel, by decide +kernel⟩
set_option maxRecDepth 100000 in
theorem dk_189 : zDk zr_189 = true ∧ zOks zr_189 = true := ⟨by decide +kernel, by decide +kernel⟩
set_option maxRecDepth 100000 in
theorem dk_190 : zDk zr_190 = true ∧ zOks zr_190 = true := ⟨by decide +kernel, by decide +kernel⟩
set_option maxRecDepth 100000 in
theorem dk_191 : zDk zr_191 = true ∧ zOks zr_191 = true := ⟨by decide +kernel, by decide +kernel⟩
set_option maxRecDepth 100000 in
theorem dk_192 : zDk zr_192 = true ∧ zOks zr_192 = true := ⟨by decide +kernel, by decide +kernel⟩
set_option maxRecDepth 100000 in
theorem dk_193 : zDk zr_193 = true ∧ zOks zr_193 = true := ⟨by decide +kernel, by decide +kernel⟩
set_option maxRecDepth 100000 in
theorem dk_194 : zDk zr_194 = true ∧ zOks zr_194 = true := ⟨by decide +kernel, by decide +kernel⟩
set_option maxRecDepth 100000 in
theorem dk_195 : zDk zr_195 = true ∧ zOks zr_195 = true := ⟨by decide +kernel, by decide +kernel⟩
set_option maxRecDepth 100000 in
theorem dk_196 : zDk zr_196 = true ∧ zOks zr_196 = true := ⟨by decide +kernel, by decide +kernel⟩
set_option maxRecDepth 100000 in
theorem dk_197 : zDk zr_197 = true ∧ zOks zr_197 = true := ⟨by decide +kernel, by decide +kernel⟩
set_option maxRecDepth 100000 in
theorem dk_198 : zDk zr_198 = true ∧ zOks zr_198 = true := ⟨by decide +kernel, by decide +kernel⟩
set_option maxRecDepth 100000 in
theorem dk_199 : zDk zr_199 = true ∧ zOks zr_199 = true := ⟨by decide +kernel, by decide +kernel⟩
set_option maxRecDepth 100000 in
theorem dk_200 : zDk zr_200 = true ∧ zOks zr_200 = true := ⟨by decide +kernel, by decide +kernel⟩
set_option maxRecDepth 100000 in
theorem dk_201 : zDk zr_201 = true ∧ zOks zr_201 = true := ⟨by decide +kernel, by decide +kernel⟩
set_option maxRecDepth 100000 in
theorem dk_202 : zDk zr_202 = true ∧ zOks zr_202 = true := ⟨by decide +kernel, by decide +kernel⟩
set_option maxRecDepth 100000 in
theorem dk_203 : zDk zr_203 = true ∧ zOks zr_203 = true := ⟨by decide +kernel, by decide +kernel⟩
set_option maxRecDepth 100000 in
theorem dkl_0 : ∀ e ∈ zc_204_0, decide (decode cL_law e.1 = .ok (e.2.1, zLen e.1 e.2.1)) = true := by decide +kernel
set_option maxRecDepth 100000 in
theorem okl_0 : ∀ e ∈ zc_204_0, zOk zr_204 e = true := by decide +kernel
set_option maxRecDepth 100000 in
theorem dkl_1 : ∀ e ∈ zc_204_1, decide (decode cL_law e.1 = .ok (e.2.1, zLen e.1 e.2.1)) = true := by decide +kernel
set_option maxRecDepth 100000 in
theorem okl_1 : ∀ e ∈ zc_204_1, zOk zr_204 e = true := by decide +kernel
set_option maxRecDepth 100000 in
theorem dkl_2 : ∀ e ∈ zc_204_2, decide (decode cL_law e.1 = .ok (e.2.1, zLen e.1 e.2.1)) = true := by decide +kernel
set_option maxRecDepth 100000 in
theorem okl_2 : ∀ e ∈ zc_204_2, zOk zr_204 e = true := by decide +kernel
set_option maxRecDepth 100000 in
theorem dkl_3 : ∀ e ∈ zc_204_3, decide (decode cL_law e.1 = .ok (e.2.1, zLen e.1 e.2.1)) = true := by decide +kernel
set_option maxRecDepth 100000 in
theorem okl_3 : ∀ e ∈ zc_204_3, zOk zr_204 e = true := by decide +kernel
set_option maxRecDepth 100000 in
theorem dkl_4 : ∀ e ∈ zc_204_4, decide (decode cL_law e.1 = .ok (e.2.1, zLen e.1 e.2.1)) = true := by decide +kernel
set_option maxRecDepth 100000 in
theorem okl_4 : ∀ e ∈ zc_204_4, zOk zr_204 e = true := by decide +kernel
set_option maxRecDepth 100000 in
theorem dkl_5 : ∀ e ∈ zc_204_5, decide (decode cL_law e.1 = .ok (e.2.1, zLen e.1 e.2.1)) = true := by decide +kernel
set_option maxRecDepth 100000 in
theorem okl_5 : ∀ e ∈ zc_204_5, zOk zr_204 e = true := by decide +kernel
set_option maxRecDepth 100000 in
theorem dkl_6 : ∀ e ∈ zc_204_6, decide (decode cL_law e.1 = .ok (e.2.1, zLen e.1 e.2.1)) = true := by decide +kernel
set_option maxRecDepth 100000 in
theorem okl_6 : ∀ e ∈ zc_204_6, zOk zr_204 e = true := by decide +kernel
set_option maxRecDepth 100000 in
theorem dkl_7 : ∀ e ∈ zc_204_7, decide (decode cL_law e.1 = .ok (e.2.1, zLen e.1 e.2.1)) = true := by decide +kernel
set_option maxRecDepth 100000 in
theorem okl_7 : ∀ e ∈ zc_204_7, zOk zr_204 e = true := by decide +kernel
set_option maxRecDepth 100000 in
theorem dkl_8 : ∀ e ∈ zc_204_8, decide (decode cL_law e.1 = .ok (e.2.1, zLen e.1 e.2.1)) = true := by decide +kernel
set_option maxRecDepth 100000 in
theorem okl_8 : ∀ e ∈ zc_204_8, zOk zr_204 e = true := by decide +kernel
set_option maxRecDepth 100000 in
theorem dkl_9 : ∀ e ∈ zc_204_9, decide (decode cL_law e.1 = .ok (e.2.1, zLen e.1 e.2.1)) = true := by decide +kernel
set_option maxRecDepth 100000 in
theorem okl_9 : ∀ e ∈ zc_204_9, zOk zr_204 e = true := by decide +kernel
set_option maxRecDepth 100000 in
theorem dkl_10 : ∀ e ∈ zc_204_10, decide (decode cL_law e.1 = .ok (e.2.1, zLen e.1 e.2.1)) = true := by decide +kernel
set_option maxRecDepth 100000 in
theorem okl_10 : ∀ e ∈ zc_204_10, zOk zr_204 e = true := by decide +kernel
theorem dk_204 : zDk zr_204 = true ∧ zOks zr_204 = true := ⟨List.all_eq_true.mpr (List.forall_mem_append.mpr ⟨dkl_0, List.forall_mem_append.mpr ⟨dkl_1, List.forall_mem_append.mpr ⟨dkl_2, List.forall_mem_append.mpr ⟨dkl_3, List.forall_mem_append.mpr ⟨dkl_4, List.forall_mem_append.mpr ⟨dkl_5, List.forall_mem_append.mpr ⟨dkl_6, List.forall_mem_append.mpr ⟨dkl_7, List.forall_mem_append.mpr ⟨dkl_8, List.forall_mem_append.mpr ⟨dkl_9, dkl_10⟩⟩⟩⟩⟩⟩⟩⟩⟩⟩), List.all_eq_true.mpr (List.forall_mem_append.mpr ⟨okl_0, List.forall_mem_append.mpr ⟨okl_1, List.forall_mem_append.mpr ⟨okl_2, List.forall_mem_append.mpr ⟨okl_3, List.forall_mem_append.mpr ⟨okl_4, List.forall_mem_append.mpr ⟨okl_5, List.forall_mem_append.mpr ⟨okl_6, List.forall_mem_append.mpr ⟨okl_7, List.forall_mem_append.mpr ⟨okl_8, List.forall_mem_append.mpr ⟨okl_9, okl_10⟩⟩⟩⟩⟩⟩⟩⟩⟩⟩)⟩
theorem dkg_0 : ∀ t ∈ zTg_0, zDk t = true ∧ zOks t = true := List.forall_mem_cons.mpr ⟨dk_0, List.forall_mem_cons.mpr ⟨dk_1, List.forall_mem_cons.mpr ⟨dk_2, List.forall_mem_cons.mpr ⟨dk_3, List.forall_mem_cons.mpr ⟨dk_4, List.forall_mem_cons.mpr ⟨dk_5, List.forall_mem_cons.mpr ⟨dk_6, List.forall_mem_cons.mpr ⟨dk_7, List.forall_mem_cons.mpr ⟨dk_8, List.forall_mem_cons.mpr ⟨dk_9, List.forall_mem_cons.mpr ⟨dk_10, List.forall_mem_cons.mpr ⟨dk_11, List.forall_mem_cons.mpr ⟨dk_12, List.forall_mem_cons.mpr ⟨dk_13, List.forall_mem_cons.mpr ⟨dk_14, List.forall_mem_cons.mpr ⟨dk_15, List.forall_mem_cons.mpr ⟨dk_16, List.forall_mem_cons.mpr ⟨dk_17, List.forall_mem_cons.mpr ⟨dk_18, List.forall_mem_cons.mpr ⟨dk_19, fun _ h => absurd h List.not_mem_nil⟩⟩⟩⟩⟩⟩⟩⟩⟩⟩⟩⟩⟩⟩⟩⟩⟩⟩⟩⟩
theorem dkg_1 : ∀ t ∈ zTg_1, zDk t = true ∧ zOks t = true := List.forall_mem_cons.mpr ⟨dk_20, List.forall_mem_cons.mpr ⟨dk_21, List.forall_mem_cons.mpr ⟨dk_22, List.forall_mem_cons.mpr ⟨dk_23, List.forall_mem_cons.mpr ⟨dk_24, List.forall_mem_cons.mpr ⟨dk_25, List.forall_mem_cons.mpr ⟨dk_26, List.forall_mem_cons.mpr ⟨dk_27, List.forall_mem_cons.mpr ⟨dk_28, List.forall_mem_cons.mpr ⟨dk_29, List.forall_mem_cons.mpr ⟨dk_30, List.forall_mem_cons.mpr ⟨dk_31, List.forall_mem_cons.mpr ⟨dk_32, List.forall_mem_cons.mpr ⟨dk_33, List.forall_mem_cons.mpr ⟨dk_34, List.forall_mem_cons.mpr ⟨dk_35, List.forall_mem_cons.mpr ⟨dk_36, List.forall_mem_cons.mpr ⟨dk_37, List.forall_mem_cons.mpr ⟨dk_38, List.forall_mem_cons.mpr ⟨dk_39, fun _ h => absurd h List.not_mem_nil⟩⟩⟩⟩⟩⟩⟩⟩⟩⟩⟩⟩⟩⟩⟩⟩⟩⟩⟩⟩
theorem dkg_2 : ∀ t ∈ zTg_2, zDk t = true ∧ zOks t = true := List.forall_mem_cons.mpr ⟨dk_40, List.forall_mem_cons.mpr ⟨dk_41, List.forall_mem_cons.mpr ⟨dk_42, List.forall_mem_cons.mpr ⟨dk_43, List.forall_mem_cons.mpr ⟨dk_44, List.forall_mem_cons.mpr ⟨dk_45, List.forall_mem_cons.mpr ⟨dk_46, List.forall_mem_cons.mpr ⟨dk_47, List.forall_mem_cons.mpr ⟨dk_48, List.forall_mem_cons.mpr ⟨dk_49, List.forall_mem_cons.mpr ⟨dk_50, List.forall_mem_cons.mpr ⟨dk_51, List.forall_mem_cons.mpr ⟨dk_52, List.forall_mem_cons.mpr ⟨dk_53, List.forall_mem_cons.mpr ⟨dk_54, List.forall_mem_cons.mpr ⟨dk_55, List.forall_mem_cons.mpr ⟨dk_56, List.forall_mem_cons.mpr ⟨dk_57, List.forall_mem_cons.mpr ⟨dk_58, List.forall_mem_cons.mpr ⟨dk_59, fun _ h => absurd h List.not_mem_nil⟩⟩⟩⟩⟩⟩⟩⟩⟩⟩⟩⟩⟩⟩⟩⟩⟩⟩⟩⟩
theorem dkg_3 : ∀ t ∈ zTg_3, zDk t = true ∧ zOks t = true := List.forall_mem_cons.mpr ⟨dk_60, List.forall_mem_cons.mpr ⟨dk_61, List.forall_mem_cons.mpr ⟨dk_62, List.forall_mem_cons.mpr ⟨dk_63, List.forall_mem_cons.mpr ⟨dk_64, List.forall_mem_cons.mpr ⟨dk_65, List.forall_mem_cons.mpr ⟨dk_66, List.forall_mem_cons.mpr ⟨dk_67, List.forall_mem_cons.mpr ⟨dk_68, List.forall_mem_cons.mpr ⟨dk_69, List.forall_mem_cons.mpr ⟨dk_70, List.forall_mem_cons.mpr ⟨dk_71, List.forall_mem_cons.mpr ⟨dk_72, List.forall_mem_cons.mpr ⟨dk_73, List.forall_mem_cons.mpr ⟨dk_74, List.forall_mem_cons.mpr ⟨dk_75, List.forall_mem_cons.mpr ⟨dk_76, List.forall_mem_cons.mpr ⟨dk_77, List.forall_mem_cons.mpr ⟨dk_78, List.forall_mem_cons.mpr ⟨dk_79, fun _ h => absurd h List.not_mem_nil⟩⟩⟩⟩⟩⟩⟩⟩⟩⟩⟩⟩⟩⟩⟩⟩⟩⟩⟩⟩
theorem dkg_4 : ∀ t ∈ zTg_4, zDk t = true ∧ zOks t = true := List.forall_mem_cons.mpr ⟨dk_80, List.forall_mem_cons.mpr ⟨dk_81, List.forall_mem_cons.mpr ⟨dk_82, List.forall_mem_cons.mpr ⟨dk_83, List.forall_mem_cons.mpr ⟨dk_84, List.forall_mem_cons.mpr ⟨dk_85, List.forall_mem_cons.mpr ⟨dk_86, List.forall_mem_cons.mpr ⟨dk_87, List.forall_mem_cons.mpr ⟨dk_88, List.forall_mem_cons.mpr ⟨dk_89, List.forall_mem_cons.mpr ⟨dk_90, List.forall_mem_cons.mpr ⟨dk_91, List.forall_mem_cons.mpr ⟨dk_92, List.forall_mem_cons.mpr ⟨dk_93, List.forall_mem_cons.mpr ⟨dk_94, List.forall_mem_cons.mpr ⟨dk_95, List.forall_mem_cons.mpr ⟨dk_96, List.forall_mem_cons.mpr ⟨dk_97, List.forall_mem_cons.mpr ⟨dk_98, List.forall_mem_cons.mpr ⟨dk_99, fun _ h => absurd h List.not_mem_nil⟩⟩⟩⟩⟩⟩⟩⟩⟩⟩⟩⟩⟩⟩⟩⟩⟩⟩⟩⟩
theorem dkg_5 : ∀ t ∈ zTg_5, zDk t = true ∧ zOks t = true := List.forall_mem_cons.mpr ⟨dk_100, List.forall_mem_cons.mpr ⟨dk_101, List.forall_mem_cons.mpr ⟨dk_102, List.forall_mem_cons.mpr ⟨dk_103, List.forall_mem_cons.mpr ⟨dk_104, List.forall_mem_cons.mpr ⟨dk_105, List.forall_mem_cons.mpr ⟨dk_106, List.forall_mem_cons.mpr ⟨dk_107, List.forall_mem_cons.mpr ⟨dk_108, List.forall_mem_cons.mpr ⟨dk_109, List.forall_mem_cons.mpr ⟨dk_110, List.forall_mem_cons.mpr ⟨dk_111, List.forall_mem_cons.mpr ⟨dk_112, List.forall_mem_cons.mpr ⟨dk_113, List.forall_mem_cons.mpr ⟨dk_114, List.forall_mem_cons.mpr ⟨dk_115, List.forall_mem_cons.mpr ⟨dk_116, List.forall_mem_cons.mpr ⟨dk_117, List.forall_mem_cons.mpr ⟨dk_118, List.forall_mem_cons.mpr ⟨dk_119, fun _ h => absurd h List.not_mem_nil⟩⟩⟩⟩⟩⟩⟩⟩⟩⟩⟩⟩⟩⟩⟩⟩⟩⟩⟩⟩
theorem dkg_6 : ∀ t ∈ zTg_6, zDk t = true ∧ zOks t = true := List.forall_mem_cons.mpr ⟨dk_120, List.forall_mem_cons.mpr ⟨dk_121, List.forall_mem_cons.mpr ⟨dk_122, List.forall_mem_cons.mpr ⟨dk_123, List.forall_mem_cons.mpr ⟨dk_124, List.forall_mem_cons.mpr ⟨dk_125, List.forall_mem_cons.mpr ⟨dk_126, List.forall_mem_cons.mpr ⟨dk_127, List.forall_mem_cons.mpr ⟨dk_128, List.forall_mem_cons.mpr ⟨dk_129, List.forall_mem_cons.mpr ⟨dk_130, List.forall_mem_cons.mpr ⟨dk_131, List.forall_mem_cons.mpr ⟨dk_132, List.forall_mem_cons.mpr ⟨dk_133, List.forall_mem_cons.mpr ⟨dk_134, List.forall_mem_cons.mpr ⟨dk_135, List.forall_mem_cons.mpr ⟨dk_136, List.forall_mem_cons.mpr ⟨dk_137, List.forall_mem_cons.mpr ⟨dk_138, List.forall_mem_cons.mpr ⟨dk_139, fun _ h => absurd h List.not_mem_nil⟩⟩⟩⟩⟩⟩⟩⟩⟩⟩⟩⟩⟩⟩⟩⟩⟩⟩⟩⟩
theorem dkg_7 : ∀ t ∈ zTg_7, zDk t = true ∧ zOks t = true := List.forall_mem_cons.mpr ⟨dk_140, List.forall_mem_cons.mpr ⟨dk_141, List.forall_mem_cons.mpr ⟨dk_142, List.forall_mem_cons.mpr ⟨dk_143, List.forall_mem_cons.mpr ⟨dk_144, List.forall_mem_cons.mpr ⟨dk_145, List.forall_mem_cons.mpr ⟨dk_146, List.forall_mem_cons.mpr ⟨dk_147, List.forall_mem_cons.mpr ⟨dk_148, List.forall_mem_cons.mpr ⟨dk_149, List.forall_mem_cons.mpr ⟨dk_150, List.forall_mem_cons.mpr ⟨dk_151, List.forall_mem_cons.mpr ⟨dk_152, List.forall_mem_cons.mpr ⟨dk_153, List.forall_mem_cons.mpr ⟨dk_154, List.forall_mem_cons.mpr ⟨dk_155, List.forall_mem_cons.mpr ⟨dk_156, List.forall_mem_cons.mpr ⟨dk_157, List.forall_mem_cons.mpr ⟨dk_158, List.forall_mem_cons.mpr ⟨dk_159, fun _ h => absurd h List.not_mem_nil⟩⟩⟩⟩⟩⟩⟩⟩⟩⟩⟩⟩⟩⟩⟩⟩⟩⟩⟩⟩
theorem dkg_8 : ∀ t ∈ zTg_8, zDk t = true ∧ zOks t = true := List.forall_mem_cons.mpr ⟨dk_160, List.forall_mem_cons.mpr ⟨dk_161, List.forall_mem_cons.mpr ⟨dk_162, List.forall_mem_cons.mpr ⟨dk_163, List.forall_mem_cons.mpr ⟨dk_164, List.forall_mem_cons.mpr ⟨dk_165, List.forall_mem_cons.mpr ⟨dk_166, List.forall_mem_cons.mpr ⟨dk_167, List.forall_mem_cons.mpr ⟨dk_168, List.forall_mem_cons.mpr ⟨dk_169, List.forall_mem_cons.mpr ⟨dk_170, List.forall_mem_cons.mpr ⟨dk_171, List.forall_mem_cons.mpr ⟨dk_172, List.forall_mem_cons.mpr ⟨dk_173, List.forall_mem_cons.mpr ⟨dk_174, List.forall_mem_cons.mpr ⟨dk_175, List.forall_mem_cons.mpr ⟨dk_176, List.forall_mem_cons.mpr ⟨dk_177, List.forall_mem_cons.mpr ⟨dk_178, List.forall_mem_cons.mpr ⟨dk_179, fun _ h => absurd h List.not_mem_nil⟩⟩⟩⟩⟩⟩⟩⟩⟩⟩⟩⟩⟩⟩⟩⟩⟩⟩⟩⟩
theorem dkg_9 : ∀ t ∈ zTg_9, zDk t = true ∧ zOks t = true := List.forall_mem_cons.mpr ⟨dk_180, List.forall_mem_cons.mpr ⟨dk_181, List.forall_mem_cons.mpr ⟨dk_182, List.forall_mem_cons.mpr ⟨dk_183, List.forall_mem_cons.mpr ⟨dk_184, List.forall_mem_cons.mpr ⟨dk_185, List.forall_mem_cons.mpr ⟨dk_186, List.forall_mem_cons.mpr ⟨dk_187, List.forall_mem_cons.mpr ⟨dk_188, List.forall_mem_cons.mpr ⟨dk_189, List.forall_mem_cons.mpr ⟨dk_190, List.forall_mem_cons.mpr ⟨dk_191, List.forall_mem_cons.mpr ⟨dk_192, List.forall_mem_cons.mpr ⟨dk_193, List.forall_mem_cons.mpr ⟨dk_194, List.forall_mem_cons.mpr ⟨dk_195, List.forall_mem_cons.mpr ⟨dk_196, List.forall_mem_cons.mpr ⟨dk_197, List.forall_mem_cons.mpr ⟨dk_198, List.forall_mem_cons.mpr ⟨dk_199, fun _ h => absurd h List.not_mem_nil⟩⟩⟩⟩⟩⟩⟩⟩⟩⟩⟩⟩⟩⟩⟩⟩⟩⟩⟩⟩
theorem dkg_10 : ∀ t ∈ zTg_10, zDk t = true ∧ zOks t = true := List.forall_mem_cons.mpr ⟨dk_200, List.forall_mem_cons.mpr ⟨dk_201, List.forall_mem_cons.mpr ⟨dk_202, List.forall_mem_cons.mpr ⟨dk_203, List.forall_mem_cons.mpr ⟨dk_204, fun _ h => absurd h List.not_mem_nil⟩⟩⟩⟩⟩
theorem zT_ok : ∀ t ∈ zT, zDk t = true ∧ zOks t = true := List.forall_mem_append.mpr ⟨dkg_0, List.forall_mem_append.mpr ⟨dkg_1, List.forall_mem_append.mpr ⟨dkg_2, List.forall_mem_append.mpr ⟨dkg_3, List.forall_mem_append.mpr ⟨dkg_4, List.forall_mem_append.mpr ⟨dkg_5, List.forall_mem_append.mpr ⟨dkg_6, List.forall_mem_append.mpr ⟨dkg_7, List.forall_mem_append.mpr ⟨dkg_8, List.forall_mem_append.mpr ⟨dkg_9, dkg_10⟩⟩⟩⟩⟩⟩⟩⟩⟩⟩
theorem mE_mem {m pc : Nat} {r : Instr × Nat × Nat × Int} (h : zcode m pc = some r) : mE m ∈ zT := by
  unfold zcode mCode mE at h
  unfold mE
  rw [List.getD_eq_getElem?_getD] at h ⊢
  cases hm : zT[m]? with
  | none => rw [hm] at h; cases h
  | some t => exact List.mem_of_getElem? hm
theorem zFind_mem : ∀ {l : List zE} {pc : Nat} {r : Instr × Nat × Nat × Int}, zFind l pc = some r → (pc, r) ∈ l
  | [], _, _, h => by cases h
  | e :: t, pc, r, h => by
    unfold zFind at h
    by_cases he : e.1 = pc
    · rw [if_pos he] at h
      cases h
      subst he
      exact List.mem_cons_self
    · rw [if_neg he] at h
      exact List.mem_cons_of_mem _ (zFind_mem h)
theorem zcode_dec {m pc : Nat} {r : Instr × Nat × Nat × Int} (h : zcode m pc = some r) : decode (mB m) pc = .ok (r.1, zLen pc r.1) := by
  have h1 := (zT_ok _ (mE_mem h)).1
  have h2 := List.all_eq_true.mp h1 _ (zFind_mem h)
  exact of_decide_eq_true h2
theorem zcode_ok {m pc : Nat} {r : Instr × Nat × Nat × Int} (h : zcode m pc = some r) : zOk (mE m) (pc, r) = true :=
  List.all_eq_true.mp (zT_ok _ (mE_mem h)).2 _ (zFind_mem h)
end
section
/-! the tables' words that the code links, by their places -/
def bigW : List Cond := lw_tbl.filter goodWord
theorem bigW_tbl {w : Cond} (h : w ∈ bigW) : w ∈ lw_tbl := (List.mem_filter.mp h).1
theorem bigW_good {w : Cond} (h : w ∈ bigW) : (w.onTables && w.keeps) = true ∨ ∃ ty, w = .arrayClass ty := good_of_word (List.mem_filter.mp h).2
theorem goodIn_big {ws : List Cond} (h : ∀ w ∈ ws, w ∈ bigW) : GoodIn bigW ws := fun w hw => ⟨h w hw, bigW_good (h w hw)⟩
theorem tmS {i : Nat} {w : Cond} (h : (k2_sels lw_privs)[i]? = some w) (g : goodWord w = true) : w ∈ bigW := List.mem_filter.mpr ⟨List.mem_append_left _ (List.mem_of_getElem? h), g⟩
theorem tl1 {i : Nat} {w : Cond} (h : tables_1_1[i]? = some w) : w ∈ lw_tbl := List.mem_append_right _ (List.mem_append_left _ (List.mem_of_getElem? h))
theorem tm1 {i : Nat} {w : Cond} (h : tables_1_1[i]? = some w) (g : goodWord w = true) : w ∈ bigW := List.mem_filter.mpr ⟨tl1 h, g⟩
theorem tl2 {i : Nat} {w : Cond} (h : tables_1_2[i]? = some w) : w ∈ lw_tbl := List.mem_append_right _ (List.mem_append_right _ (List.mem_append_left _ (List.mem_of_getElem? h)))
theorem tm2 {i : Nat} {w : Cond} (h : tables_1_2[i]? = some w) (g : goodWord w = true) : w ∈ bigW := List.mem_filter.mpr ⟨tl2 h, g⟩
theorem tl3 {i : Nat} {w : Cond} (h : tables_1_3[i]? = some w) : w ∈ lw_tbl := List.mem_append_right _ (List.mem_append_right _ (List.mem_append_right _ (List.mem_append_left _ (List.mem_of_getElem? h))))
theorem tm3 {i : Nat} {w : Cond} (h : tables_1_3[i]? = some w) (g : goodWord w = true) : w ∈ bigW := List.mem_filter.mpr ⟨tl3 h, g⟩
theorem tl4 {i : Nat} {w : Cond} (h : tables_1_4[i]? = some w) : w ∈ lw_tbl := List.mem_append_right _ (List.mem_append_right _ (List.mem_append_right _ (List.mem_append_right _ (List.mem_append_left _ (List.mem_of_getElem? h)))))
theorem tm4 {i : Nat} {w : Cond} (h : tables_1_4[i]? = some w) (g : goodWord w = true) : w ∈ bigW := List.mem_filter.mpr ⟨tl4 h, g⟩
theorem tl5 {i : Nat} {w : Cond} (h : tables_1_5[i]? = some w) : w ∈ lw_tbl := List.mem_append_right _ (List.mem_append_right _ (List.mem_append_right _ (List.mem_append_right _ (List.mem_append_right _ (List.mem_append_left _ (List.mem_of_getElem? h))))))
theorem tm5 {i : Nat} {w : Cond} (h : tables_1_5[i]? = some w) (g : goodWord w = true) : w ∈ bigW := List.mem_filter.mpr ⟨tl5 h, g⟩
theorem tl6 {i : Nat} {w : Cond} (h : tables_1_6[i]? = some w) : w ∈ lw_tbl := List.mem_append_right _ (List.mem_append_right _ (List.mem_append_right _ (List.mem_append_right _ (List.mem_append_right _ (List.mem_append_right _ (List.mem_of_getElem? h))))))
theorem tm6 {i : Nat} {w : Cond} (h : tables_1_6[i]? = some w) (g : goodWord w = true) : w ∈ bigW := List.mem_filter.mpr ⟨tl6 h, g⟩
theorem layW {C : String} {T : u_T} {N : Nat} (h : ∀ k, k < N → u_lay C T k ∈ bigW) : ∀ w ∈ u_ws C T N, w ∈ bigW := by
  intro w hw
  obtain ⟨k, hk, rfl⟩ := List.mem_map.mp hw
  exact h k (List.mem_range.mp hk)
theorem zlt_s {P : Nat → Prop} {n : Nat} (h : ∀ k, k < n → P k) (hn : P n) : ∀ k, k < n + 1 → P k := fun k hk => by
  by_cases e : k = n
  · rw [e]; exact hn
  · exact h k (by omega)
theorem zlt_z {P : Nat → Prop} : ∀ k, k < 0 → P k := fun k h => absurd h (Nat.not_lt_zero k)
theorem la_0_0 : u_lay RX0 TX0 0 ∈ bigW := (tm3 (i := 51) rfl rfl)
theorem la_0_1 : u_lay RX0 TX0 1 ∈ bigW := (tm3 (i := 53) rfl rfl)
theorem la_0_2 : u_lay RX0 TX0 2 ∈ bigW := (tm3 (i := 55) rfl rfl)
theorem la_0_3 : u_lay RX0 TX0 3 ∈ bigW := (tm3 (i := 57) rfl rfl)
theorem la_0_4 : u_lay RX0 TX0 4 ∈ bigW := (tm3 (i := 59) rfl rfl)
theorem la_0_5 : u_lay RX0 TX0 5 ∈ bigW := (tm3 (i := 61) rfl rfl)
theorem la_0_6 : u_lay RX0 TX0 6 ∈ bigW := (tm3 (i := 63) rfl rfl)
theorem lay_0 : ∀ w ∈ u_ws RX0 TX0 7, w ∈ bigW := layW (zlt_s (zlt_s (zlt_s (zlt_s (zlt_s (zlt_s (zlt_s zlt_z la_0_0) la_0_1) la_0_2) la_0_3) la_0_4) la_0_5) la_0_6)
theorem la_1_0 : u_lay RX1 TX1 0 ∈ bigW := (tm2 (i := 3) rfl rfl)
theorem la_1_1 : u_lay RX1 TX1 1 ∈ bigW := (tm2 (i := 5) rfl rfl)
theorem la_1_2 : u_lay RX1 TX1 2 ∈ bigW := (tm2 (i := 7) rfl rfl)
theorem la_1_3 : u_lay RX1 TX1 3 ∈ bigW := (tm2 (i := 9) rfl rfl)
theorem la_1_4 : u_lay RX1 TX1 4 ∈ bigW := (tm2 (i := 11) rfl rfl)
theorem lay_1 : ∀ w ∈ u_ws RX1 TX1 5, w ∈ bigW := layW (zlt_s (zlt_s (zlt_s (zlt_s (zlt_s zlt_z la_1_0) la_1_1) la_1_2) la_1_3) la_1_4)
theorem la_2_0 : u_lay RX2 TX2 0 ∈ bigW := (tm1 (i := 96) rfl rfl)
theorem la_2_1 : u_lay RX2 TX2 1 ∈ bigW := (tm1 (i := 98) rfl rfl)
theorem lay_2 : ∀ w ∈ u_ws RX2 TX2 2, w ∈ bigW := layW (zlt_s (zlt_s zlt_z la_2_0) la_2_1)
theorem la_3_0 : u_lay RX3 TX3 0 ∈ bigW := (tm4 (i := 24) rfl rfl)
theorem la_3_1 : u_lay RX3 TX3 1 ∈ bigW := (tm4 (i := 26) rfl rfl)
theorem la_3_2 : u_lay RX3 TX3 2 ∈ bigW := (tm4 (i := 28) rfl rfl)
theorem la_3_3 : u_lay RX3 TX3 3 ∈ bigW := (tm4 (i := 30) rfl rfl)
theorem lay_3 : ∀ w ∈ u_ws RX3 TX3 4, w ∈ bigW := layW (zlt_s (zlt_s (zlt_s (zlt_s zlt_z la_3_0) la_3_1) la_3_2) la_3_3)
theorem la_4_0 : u_lay RX4 TX4 0 ∈ bigW := (tm1 (i := 223) rfl rfl)
theorem lay_4 : ∀ w ∈ u_ws RX4 TX4 1, w ∈ bigW := layW (zlt_s zlt_z la_4_0)
theorem la_5_0 : u_lay RX5 TX5 0 ∈ bigW := (tm2 (i := 69) rfl rfl)
theorem la_5_1 : u_lay RX5 TX5 1 ∈ bigW := (tm2 (i := 71) rfl rfl)
theorem la_5_2 : u_lay RX5 TX5 2 ∈ bigW := (tm2 (i := 73) rfl rfl)
theorem la_5_3 : u_lay RX5 TX5 3 ∈ bigW := (tm2 (i := 75) rfl rfl)
theorem la_5_4 : u_lay RX5 TX5 4 ∈ bigW := (tm2 (i := 77) rfl rfl)
theorem lay_5 : ∀ w ∈ u_ws RX5 TX5 5, w ∈ bigW := layW (zlt_s (zlt_s (zlt_s (zlt_s (zlt_s zlt_z la_5_0) la_5_1) la_5_2) la_5_3) la_5_4)
theorem la_6_0 : u_lay RX6 TX6 0 ∈ bigW := (tm2 (i := 47) rfl rfl)
theorem la_6_1 : u_lay RX6 TX6 1 ∈ bigW := (tm2 (i := 49) rfl rfl)
theorem la_6_2 : u_lay RX6 TX6 2 ∈ bigW := (tm2 (i := 51) rfl rfl)
theorem la_6_3 : u_lay RX6 TX6 3 ∈ bigW := (tm2 (i := 53) rfl rfl)
theorem la_6_4 : u_lay RX6 TX6 4 ∈ bigW := (tm2 (i := 55) rfl rfl)
theorem lay_6 : ∀ w ∈ u_ws RX6 TX6 5, w ∈ bigW := layW (zlt_s (zlt_s (zlt_s (zlt_s (zlt_s zlt_z la_6_0) la_6_1) la_6_2) la_6_3) la_6_4)
theorem la_7_0 : u_lay RX7 TX7 0 ∈ bigW := (tm2 (i := 96) rfl rfl)
theorem la_7_1 : u_lay RX7 TX7 1 ∈ bigW := (tm2 (i := 98) rfl rfl)
theorem la_7_2 : u_lay RX7 TX7 2 ∈ bigW := (tm2 (i := 100) rfl rfl)
theorem lay_7 : ∀ w ∈ u_ws RX7 TX7 3, w ∈ bigW := layW (zlt_s (zlt_s (zlt_s zlt_z la_7_0) la_7_1) la_7_2)
theorem la_8_0 : u_lay RX8 TX8 0 ∈ bigW := (tm1 (i := 131) rfl rfl)
theorem la_8_1 : u_lay RX8 TX8 1 ∈ bigW := (tm1 (i := 133) rfl rfl)
theorem la_8_2 : u_lay RX8 TX8 2 ∈ bigW := (tm1 (i := 135) rfl rfl)
theorem la_8_3 : u_lay RX8 TX8 3 ∈ bigW := (tm1 (i := 137) rfl rfl)
theorem la_8_4 : u_lay RX8 TX8 4 ∈ bigW := (tm1 (i := 139) rfl rfl)
theorem la_8_5 : u_lay RX8 TX8 5 ∈ bigW := (tm1 (i := 141) rfl rfl)
theorem la_8_6 : u_lay RX8 TX8 6 ∈ bigW := (tm1 (i := 143) rfl rfl)
theorem lay_8 : ∀ w ∈ u_ws RX8 TX8 7, w ∈ bigW := layW (zlt_s (zlt_s (zlt_s (zlt_s (zlt_s (zlt_s (zlt_s zlt_z la_8_0) la_8_1) la_8_2) la_8_3) la_8_4) la_8_5) la_8_6)
theorem la_9_0 : u_lay RX9 TX9 0 ∈ bigW := (tm2 (i := 24) rfl rfl)
theorem la_9_1 : u_lay RX9 TX9 1 ∈ bigW := (tm2 (i := 26) rfl rfl)
theorem lay_9 : ∀ w ∈ u_ws RX9 TX9 2, w ∈ bigW := layW (zlt_s (zlt_s zlt_z la_9_0) la_9_1)
theorem la_10_0 : u_lay RX10 TX10 0 ∈ bigW := (tm1 (i := 208) rfl rfl)
theorem lay_10 : ∀ w ∈ u_ws RX10 TX10 1, w ∈ bigW := layW (zlt_s zlt_z la_10_0)
theorem la_11_0 : u_lay RX11 TX11 0 ∈ bigW := (tm2 (i := 111) rfl rfl)
theorem la_11_1 : u_lay RX11 TX11 1 ∈ bigW := (tm2 (i := 113) rfl rfl)
theorem la_11_2 : u_lay RX11 TX11 2 ∈ bigW := (tm2 (i := 115) rfl rfl)
theorem la_11_3 : u_lay RX11 TX11 3 ∈ bigW := (tm2 (i := 117) rfl rfl)
theorem la_11_4 : u_lay RX11 TX11 4 ∈ bigW := (tm2 (i := 119) rfl rfl)
theorem la_11_5 : u_lay RX11 TX11 5 ∈ bigW := (tm2 (i := 121) rfl rfl)
theorem la_11_6 : u_lay RX11 TX11 6 ∈ bigW := (tm2 (i := 123) rfl rfl)
theorem la_11_7 : u_lay RX11 TX11 7 ∈ bigW := (tm2 (i := 125) rfl rfl)
theorem lay_11 : ∀ w ∈ u_ws RX11 TX11 8, w ∈ bigW := layW (zlt_s (zlt_s (zlt_s (zlt_s (zlt_s (zlt_s (zlt_s (zlt_s zlt_z la_11_0) la_11_1) la_11_2) la_11_3) la_11_4) la_11_5) la_11_6) la_11_7)
theorem la_12_0 : u_lay RX12 TX12 0 ∈ bigW := (tm5 (i := 45) rfl rfl)
theorem la_12_1 : u_lay RX12 TX12 1 ∈ bigW := (tm5 (i := 47) rfl rfl)
theorem la_12_2 : u_lay RX12 TX12 2 ∈ bigW := (tm5 (i := 49) rfl rfl)
theorem la_12_3 : u_lay RX12 TX12 3 ∈ bigW := (tm5 (i := 51) rfl rfl)
theorem la_12_4 : u_lay RX12 TX12 4 ∈ bigW := (tm5 (i := 53) rfl rfl)
theorem la_12_5 : u_lay RX12 TX12 5 ∈ bigW := (tm5 (i := 55) rfl rfl)
theorem la_12_6 : u_lay RX12 TX12 6 ∈ bigW := (tm5 (i := 57) rfl rfl)
theorem la_12_7 : u_lay RX12 TX12 7 ∈ bigW := (tm5 (i := 59) rfl rfl)
theorem la_12_8 : u_lay RX12 TX12 8 ∈ bigW := (tm5 (i := 61) rfl rfl)
theorem la_12_9 : u_lay RX12 TX12 9 ∈ bigW := (tm5 (i := 63) rfl rfl)
theorem la_12_10 : u_lay RX12 TX12 10 ∈ bigW := (tm5 (i := 65) rfl rfl)
theorem la_12_11 : u_lay RX12 TX12 11 ∈ bigW := (tm5 (i := 67) rfl rfl)
theorem la_12_12 : u_lay RX12 TX12 12 ∈ bigW := (tm5 (i := 69) rfl rfl)
theorem la_12_13 : u_lay RX12 TX12 13 ∈ bigW := (tm5 (i := 71) rfl rfl)
theorem la_12_14 : u_lay RX12 TX12 14 ∈ bigW := (tm5 (i := 73) rfl rfl)
theorem la_12_15 : u_lay RX12 TX12 15 ∈ bigW := (tm5 (i := 75) rfl rfl)
theorem la_12_16 : u_lay RX12 TX12 16 ∈ bigW := (tm5 (i := 77) rfl rfl)
theorem la_12_17 : u_lay RX12 TX12 17 ∈ bigW := (tm5 (i := 79) rfl rfl)
theorem la_12_18 : u_lay RX12 TX12 18 ∈ bigW := (tm5 (i := 81) rfl rfl)
theorem la_12_19 : u_lay RX12 TX12 19 ∈ bigW := (tm5 (i := 83) rfl rfl)
theorem la_12_20 : u_lay RX12 TX12 20 ∈ bigW := (tm5 (i := 85) rfl rfl)
theorem la_12_21 : u_lay RX12 TX12 21 ∈ bigW := (tm5 (i := 87) rfl rfl)
theorem la_12_22 : u_lay RX12 TX12 22 ∈ bigW := (tm5 (i := 89) rfl rfl)
theorem la_12_23 : u_lay RX12 TX12 23 ∈ bigW := (tm5 (i := 91) rfl rfl)
theorem la_12_24 : u_lay RX12 TX12 24 ∈ bigW := (tm5 (i := 93) rfl rfl)
theorem la_12_25 : u_lay RX12 TX12 25 ∈ bigW := (tm5 (i := 95) rfl rfl)
theorem la_12_26 : u_lay RX12 TX12 26 ∈ bigW := (tm5 (i := 97) rfl rfl)
theorem la_12_27 : u_lay RX12 TX12 27 ∈ bigW := (tm5 (i := 99) rfl rfl)
theorem la_12_28 : u_lay RX12 TX12 28 ∈ bigW := (tm5 (i := 101) rfl rfl)
theorem la_12_29 : u_lay RX12 TX12 29 ∈ bigW := (tm5 (i := 103) rfl rfl)
theorem la_12_30 : u_lay RX12 TX12 30 ∈ bigW := (tm5 (i := 105) rfl rfl)
theorem la_12_31 : u_lay RX12 TX12 31 ∈ bigW := (tm5 (i := 107) rfl rfl)
theorem la_12_32 : u_lay RX12 TX12 32 ∈ bigW := (tm5 (i := 109) rfl rfl)
theorem la_12_33 : u_lay RX12 TX12 33 ∈ bigW := (tm5 (i := 111) rfl rfl)
theorem la_12_34 : u_lay RX12 TX12 34 ∈ bigW := (tm5 (i := 113) rfl rfl)
theorem la_12_35 : u_lay RX12 TX12 35 ∈ bigW := (tm5 (i := 115) rfl rfl)
theorem la_12_36 : u_lay RX12 TX12 36 ∈ bigW := (tm5 (i := 117) rfl rfl)
theorem la_12_37 : u_lay RX12 TX12 37 ∈ bigW := (tm5 (i := 119) rfl rfl)
theorem la_12_38 : u_lay RX12 TX12 38 ∈ bigW := (tm5 (i := 121) rfl rfl)
theorem la_12_39 : u_lay RX12 TX12 39 ∈ bigW := (tm5 (i := 123) rfl rfl)
theorem la_12_40 : u_lay RX12 TX12 40 ∈ bigW := (tm5 (i := 125) rfl rfl)
theorem la_12_41 : u_lay RX12 TX12 41 ∈ bigW := (tm5 (i := 127) rfl rfl)
theorem la_12_42 : u_lay RX12 TX12 42 ∈ bigW := (tm5 (i := 129) rfl rfl)
theorem la_12_43 : u_lay RX12 TX12 43 ∈ bigW := (tm5 (i := 131) rfl rfl)
theorem la_12_44 : u_lay RX12 TX12 44 ∈ bigW := (tm5 (i := 133) rfl rfl)
theorem la_12_45 : u_lay RX12 TX12 45 ∈ bigW := (tm5 (i := 135) rfl rfl)
theorem la_12_46 : u_lay RX12 TX12 46 ∈ bigW := (tm5 (i := 137) rfl rfl)
theorem la_12_47 : u_lay RX12 TX12 47 ∈ bigW := (tm5 (i := 139) rfl rfl)
theorem la_12_48 : u_lay RX12 TX12 48 ∈ bigW := (tm5 (i := 141) rfl rfl)
theorem la_12_49 : u_lay RX12 TX12 49 ∈ bigW := (tm5 (i := 143) rfl rfl)
theorem la_12_50 : u_lay RX12 TX12 50 ∈ bigW := (tm5 (i := 145) rfl rfl)
theorem la_12_51 : u_lay RX12 TX12 51 ∈ bigW := (tm5 (i := 147) rfl rfl)
theorem la_12_52 : u_lay RX12 TX12 52 ∈ bigW := (tm5 (i := 149) rfl rfl)
theorem la_12_53 : u_lay RX12 TX12 53 ∈ bigW := (tm5 (i := 151) rfl rfl)
theorem lay_12 : ∀ w ∈ u_ws RX12 TX12 54, w ∈ bigW := layW (zlt_s (zlt_s (zlt_s (zlt_s (zlt_s (zlt_s (zlt_s (zlt_s (zlt_s (zlt_s (zlt_s (zlt_s (zlt_s (zlt_s (zlt_s (zlt_s (zlt_s (zlt_s (zlt_s (zlt_s (zlt_s (zlt_s (zlt_s (zlt_s (zlt_s (zlt_s (zlt_s (zlt_s (zlt_s (zlt_s (zlt_s (zlt_s (zlt_s (zlt_s (zlt_s (zlt_s (zlt_s (zlt_s (zlt_s (zlt_s (zlt_s (zlt_s (zlt_s (zlt_s (zlt_s (zlt_s (zlt_s (zlt_s (zlt_s (zlt_s (zlt_s (zlt_s (zlt_s (zlt_s zlt_z la_12_0) la_12_1) la_12_2) la_12_3) la_12_4) la_12_5) la_12_6) la_12_7) la_12_8) la_12_9) la_12_10) la_12_11) la_12_12) la_12_13) la_12_14) la_12_15) la_12_16) la_12_17) la_12_18) la_12_19) la_12_20) la_12_21) la_12_22) la_12_23) la_12_24) la_12_25) la_12_26) la_12_27) la_12_28) la_12_29) la_12_30) la_12_31) la_12_32) la_12_33) la_12_34) la_12_35) la_12_36) la_12_37) la_12_38) la_12_39) la_12_40) la_12_41) la_12_42) la_12_43) la_12_44) la_12_45) la_12_46) la_12_47) la_12_48) la_12_49) la_12_50) la_12_51) la_12_52) la_12_53)
theorem la_13_0 : u_lay RJx4a65c TJx4a65c 0 ∈ bigW := (tm1 (i := 61) rfl rfl)
theorem la_13_1 : u_lay RJx4a65c TJx4a65c 1 ∈ bigW := (tm1 (i := 57) rfl rfl)
theorem la_13_2 : u_lay RJx4a65c TJx4a65c 2 ∈ bigW := (tm1 (i := 59) rfl rfl)
theorem lay_13 : ∀ w ∈ u_ws RJx4a65c TJx4a65c 3, w ∈ bigW := layW (zlt_s (zlt_s (zlt_s zlt_z la_13_0) la_13_1) la_13_2)
theorem ins_ok : ∀ k, k < 14 → .instantiable (cNm k) (cRow k).2.2 ∈ bigW := (zlt_s (zlt_s (zlt_s (zlt_s (zlt_s (zlt_s (zlt_s (zlt_s (zlt_s (zlt_s (zlt_s (zlt_s (zlt_s (zlt_s zlt_z (tm3 (i := 17) rfl rfl)) (tm1 (i := 227) rfl rfl)) (tm1 (i := 82) rfl rfl)) (tm4 (i := 4) rfl rfl)) (tm1 (i := 214) rfl rfl)) (tm2 (i := 59) rfl rfl)) (tm2 (i := 30) rfl rfl)) (tm2 (i := 81) rfl rfl)) (tm1 (i := 73) rfl rfl)) (tm2 (i := 15) rfl rfl)) (tm1 (i := 33) rfl rfl)) (tm1 (i := 25) rfl rfl)) (tm4 (i := 224) rfl rfl)) (tm1 (i := 39) rfl rfl))
theorem ini_ok : ∀ k, k < 23 → .initialized (cNm k) ∈ bigW := (zlt_s (zlt_s (zlt_s (zlt_s (zlt_s (zlt_s (zlt_s (zlt_s (zlt_s (zlt_s (zlt_s (zlt_s (zlt_s (zlt_s (zlt_s (zlt_s (zlt_s (zlt_s (zlt_s (zlt_s (zlt_s (zlt_s (zlt_s zlt_z (tm1 (i := 21) rfl rfl)) (tm1 (i := 13) rfl rfl)) (tm1 (i := 7) rfl rfl)) (tm1 (i := 23) rfl rfl)) (tm1 (i := 12) rfl rfl)) (tm1 (i := 16) rfl rfl)) (tm1 (i := 15) rfl rfl)) (tm1 (i := 17) rfl rfl)) (tm1 (i := 6) rfl rfl)) (tm1 (i := 14) rfl rfl)) (tm1 (i := 2) rfl rfl)) (tm1 (i := 1) rfl rfl)) (tm1 (i := 18) rfl rfl)) (tm1 (i := 5) rfl rfl)) (tm1 (i := 4) rfl rfl)) (tm1 (i := 3) rfl rfl)) (tm1 (i := 10) rfl rfl)) (tm1 (i := 19) rfl rfl)) (tm1 (i := 20) rfl rfl)) (tm1 (i := 8) rfl rfl)) (tm1 (i := 22) rfl rfl)) (tm1 (i := 9) rfl rfl)) (tm1 (i := 11) rfl rfl))
theorem cn_ok : ∀ k, k < 23 → k ≠ 21 → cNm k ≠ "java/lang/invoke/MethodHandle" ∧ cNm k ≠ "java/lang/invoke/VarHandle" ∧ plainName (cNm k) = true := by decide +kernel
/-- a method's words: its code, that it is static or not, its class; 'selects' where it is called by its object -/
def zWd (t : zR) : Prop := t.2.2.2.2.1 ≠ 24 → Cond.code t.1 t.2.1 t.2.2.1 t.2.2.2.1 ∈ bigW ∧ t.1.cls = cNm t.2.2.2.2.1 ∧ t.2.2.2.2.1 < 23 ∧ t.2.2.2.2.1 ≠ 21
theorem wd_0 : zWd zr_0 := fun _ => ⟨(tm3 (i := 20) rfl rfl), rfl, by decide, by decide⟩
theorem wi_0 : Cond.instanceMethod yX0_init ∈ bigW := (tm3 (i := 19) rfl rfl)
theorem wd_1 : zWd zr_1 := fun _ => ⟨(tm3 (i := 83) rfl rfl), rfl, by decide, by decide⟩
theorem wi_1 : Cond.instanceMethod yX0_hasInput ∈ bigW := (tm3 (i := 81) rfl rfl)
theorem ws_1 : Cond.selects yX0_hasInput.cls yX0_hasInput yX0_hasInput ∈ bigW := (tm3 (i := 82) rfl rfl)
theorem wd_2 : zWd zr_2 := fun _ => ⟨(tm3 (i := 130) rfl rfl), rfl, by decide, by decide⟩
theorem wi_2 : Cond.instanceMethod yX0_addStep ∈ bigW := (tm3 (i := 128) rfl rfl)
theorem ws_2 : Cond.selects yX0_addStep.cls yX0_addStep yX0_addStep ∈ bigW := (tm3 (i := 129) rfl rfl)
theorem wd_3 : zWd zr_3 := fun _ => ⟨(tm3 (i := 138) rfl rfl), rfl, by decide, by decide⟩
theorem wi_3 : Cond.instanceMethod yX0_strip ∈ bigW := (tm3 (i := 136) rfl rfl)
theorem ws_3 : Cond.selects yX0_strip.cls yX0_strip yX0_strip ∈ bigW := (tm3 (i := 137) rfl rfl)
theorem wd_4 : zWd zr_4 := fun _ => ⟨(tm4 (i := 140) rfl rfl), rfl, by decide, by decide⟩
theorem wi_4 : Cond.instanceMethod yX0_takeOutcome ∈ bigW := (tm4 (i := 138) rfl rfl)
theorem ws_4 : Cond.selects yX0_takeOutcome.cls yX0_takeOutcome yX0_takeOutcome ∈ bigW := (tm4 (i := 139) rfl rfl)
theorem wd_5 : zWd zr_5 := fun _ => ⟨(tm1 (i := 230) rfl rfl), rfl, by decide, by decide⟩
theorem wi_5 : Cond.instanceMethod yX1_init ∈ bigW := (tm1 (i := 229) rfl rfl)
theorem wd_6 : zWd zr_6 := fun _ => ⟨(tm4 (i := 217) rfl rfl), rfl, by decide, by decide⟩
theorem wi_6 : Cond.instanceMethod yX1_reset ∈ bigW := (tm4 (i := 215) rfl rfl)
theorem ws_6 : Cond.selects yX1_reset.cls yX1_reset yX1_reset ∈ bigW := (tm4 (i := 216) rfl rfl)
theorem wd_7 : zWd zr_7 := fun _ => ⟨(tm3 (i := 225) rfl rfl), rfl, by decide, by decide⟩
theorem wi_7 : Cond.instanceMethod yX1_find ∈ bigW := (tm3 (i := 223) rfl rfl)
theorem ws_7 : Cond.selects yX1_find.cls yX1_find yX1_find ∈ bigW := (tm3 (i := 224) rfl rfl)
theorem wd_8 : zWd zr_8 := fun _ => ⟨(tm4 (i := 53) rfl rfl), rfl, by decide, by decide⟩
theorem wi_8 : Cond.instanceMethod yX1_use ∈ bigW := (tm4 (i := 51) rfl rfl)
theorem ws_8 : Cond.selects yX1_use.cls yX1_use yX1_use ∈ bigW := (tm4 (i := 52) rfl rfl)
theorem wd_9 : zWd zr_9 := fun _ => ⟨(tm3 (i := 239) rfl rfl), rfl, by decide, by decide⟩
theorem wi_9 : Cond.instanceMethod yX1_unused ∈ bigW := (tm3 (i := 237) rfl rfl)
theorem ws_9 : Cond.selects yX1_unused.cls yX1_unused yX1_unused ∈ bigW := (tm3 (i := 238) rfl rfl)
theorem wd_10 : zWd zr_10 := fun _ => ⟨(tm4 (i := 150) rfl rfl), rfl, by decide, by decide⟩
theorem wi_10 : Cond.instanceMethod yX1_add ∈ bigW := (tm4 (i := 148) rfl rfl)
theorem ws_10 : Cond.selects yX1_add.cls yX1_add yX1_add ∈ bigW := (tm4 (i := 149) rfl rfl)
theorem wd_11 : zWd zr_11 := fun _ => ⟨(tm4 (i := 159) rfl rfl), rfl, by decide, by decide⟩
theorem wi_11 : Cond.instanceMethod yX1_evictExcess ∈ bigW := (tm4 (i := 157) rfl rfl)
theorem ws_11 : Cond.selects yX1_evictExcess.cls yX1_evictExcess yX1_evictExcess ∈ bigW := (tm4 (i := 158) rfl rfl)
theorem wd_12 : zWd zr_12 := fun _ => ⟨(tm4 (i := 202) rfl rfl), rfl, by decide, by decide⟩
theorem wi_12 : Cond.instanceMethod yX1_dropAll ∈ bigW := (tm4 (i := 200) rfl rfl)
theorem ws_12 : Cond.selects yX1_dropAll.cls yX1_dropAll yX1_dropAll ∈ bigW := (tm4 (i := 201) rfl rfl)
theorem wd_13 : zWd zr_13 := fun _ => ⟨(tm1 (i := 85) rfl rfl), rfl, by decide, by decide⟩
theorem wi_13 : Cond.instanceMethod yX2_init ∈ bigW := (tm1 (i := 84) rfl rfl)
theorem wd_14 : zWd zr_14 := fun _ => ⟨(tm3 (i := 204) rfl rfl), rfl, by decide, by decide⟩
theorem wi_14 : Cond.instanceMethod yX2_isAbsent ∈ bigW := (tm3 (i := 202) rfl rfl)
theorem ws_14 : Cond.selects yX2_isAbsent.cls yX2_isAbsent yX2_isAbsent ∈ bigW := (tm3 (i := 203) rfl rfl)
theorem wd_15 : zWd zr_15 := fun _ => ⟨(tm2 (i := 198) rfl rfl), rfl, by decide, by decide⟩
theorem wi_15 : Cond.instanceMethod yX2_append ∈ bigW := (tm2 (i := 196) rfl rfl)
theorem ws_15 : Cond.selects yX2_append.cls yX2_append yX2_append ∈ bigW := (tm2 (i := 197) rfl rfl)
theorem wd_16 : zWd zr_16 := fun _ => ⟨(tm4 (i := 83) rfl rfl), rfl, by decide, by decide⟩
theorem wi_16 : Cond.instanceMethod yX2_appendAll ∈ bigW := (tm4 (i := 81) rfl rfl)
theorem ws_16 : Cond.selects yX2_appendAll.cls yX2_appendAll yX2_appendAll ∈ bigW := (tm4 (i := 82) rfl rfl)
theorem wd_17 : zWd zr_17 := fun _ => ⟨(tm2 (i := 217) rfl rfl), rfl, by decide, by decide⟩
theorem wi_17 : Cond.instanceMethod yX2_become ∈ bigW := (tm2 (i := 215) rfl rfl)
theorem ws_17 : Cond.selects yX2_become.cls yX2_become yX2_become ∈ bigW := (tm2 (i := 216) rfl rfl)
theorem wd_18 : zWd zr_18 := fun _ => ⟨(tm2 (i := 233) rfl rfl), rfl, by decide, by decide⟩
theorem wi_18 : Cond.instanceMethod yX2_sameAs ∈ bigW := (tm2 (i := 231) rfl rfl)
theorem ws_18 : Cond.selects yX2_sameAs.cls yX2_sameAs yX2_sameAs ∈ bigW := (tm2 (i := 232) rfl rfl)
theorem wd_19 : zWd zr_19 := fun _ => ⟨(tm4 (i := 106) rfl rfl), rfl, by decide, by decide⟩
theorem wi_19 : Cond.instanceMethod yX2_turn ∈ bigW := (tm4 (i := 104) rfl rfl)
theorem ws_19 : Cond.selects yX2_turn.cls yX2_turn yX2_turn ∈ bigW := (tm4 (i := 105) rfl rfl)
theorem wd_20 : zWd zr_20 := fun _ => ⟨(tm4 (i := 110) rfl rfl), rfl, by decide, by decide⟩
theorem wi_20 : Cond.instanceMethod yX2_sort ∈ bigW := (tm4 (i := 108) rfl rfl)
theorem ws_20 : Cond.selects yX2_sort.cls yX2_sort yX2_sort ∈ bigW := (tm4 (i := 109) rfl rfl)
theorem wd_21 : zWd zr_21 := fun _ => ⟨(tm4 (i := 119) rfl rfl), rfl, by decide, by decide⟩
theorem wi_21 : Cond.instanceMethod yX2_sum ∈ bigW := (tm4 (i := 117) rfl rfl)
theorem ws_21 : Cond.selects yX2_sum.cls yX2_sum yX2_sum ∈ bigW := (tm4 (i := 118) rfl rfl)
theorem wd_22 : zWd zr_22 := fun _ => ⟨(tm4 (i := 114) rfl rfl), rfl, by decide, by decide⟩
theorem wi_22 : Cond.instanceMethod yX2_becomeFigures ∈ bigW := (tm4 (i := 112) rfl rfl)
theorem ws_22 : Cond.selects yX2_becomeFigures.cls yX2_becomeFigures yX2_becomeFigures ∈ bigW := (tm4 (i := 113) rfl rfl)
theorem wd_23 : zWd zr_23 := fun _ => ⟨(tm4 (i := 123) rfl rfl), rfl, by decide, by decide⟩
theorem wi_23 : Cond.instanceMethod yX2_cut ∈ bigW := (tm4 (i := 121) rfl rfl)
theorem ws_23 : Cond.selects yX2_cut.cls yX2_cut yX2_cut ∈ bigW := (tm4 (i := 122) rfl rfl)
theorem wd_24 : zWd zr_24 := fun _ => ⟨(tm4 (i := 127) rfl rfl), rfl, by decide, by decide⟩
theorem wi_24 : Cond.instanceMethod yX2_keepFirstOnes ∈ bigW := (tm4 (i := 125) rfl rfl)
theorem ws_24 : Cond.selects yX2_keepFirstOnes.cls yX2_keepFirstOnes yX2_keepFirstOnes ∈ bigW := (tm4 (i := 126) rfl rfl)
theorem wd_25 : zWd zr_25 := fun _ => ⟨(tm4 (i := 131) rfl rfl), rfl, by decide, by decide⟩
theorem wi_25 : Cond.instanceMethod yX2_isAmongFirst ∈ bigW := (tm4 (i := 130) rfl rfl)
theorem ws_25 : Cond.selects yX2_isAmongFirst.cls yX2_isAmongFirst yX2_isAmongFirst ∈ bigW := tmS (i := 19) rfl rfl
theorem wd_26 : zWd zr_26 := fun _ => ⟨(tm4 (i := 135) rfl rfl), rfl, by decide, by decide⟩
theorem wi_26 : Cond.instanceMethod yX2_mix ∈ bigW := (tm4 (i := 133) rfl rfl)
theorem ws_26 : Cond.selects yX2_mix.cls yX2_mix yX2_mix ∈ bigW := (tm4 (i := 134) rfl rfl)
theorem wd_27 : zWd zr_27 := fun _ => ⟨(tm4 (i := 7) rfl rfl), rfl, by decide, by decide⟩
theorem wi_27 : Cond.instanceMethod yX3_init ∈ bigW := (tm4 (i := 6) rfl rfl)
theorem wd_28 : zWd zr_28 := fun _ => ⟨(tm4 (i := 44) rfl rfl), rfl, by decide, by decide⟩
theorem wi_28 : Cond.instanceMethod yX3_begin ∈ bigW := (tm4 (i := 42) rfl rfl)
theorem ws_28 : Cond.selects yX3_begin.cls yX3_begin yX3_begin ∈ bigW := (tm4 (i := 43) rfl rfl)
theorem wd_29 : zWd zr_29 := fun _ => ⟨(tm1 (i := 217) rfl rfl), rfl, by decide, by decide⟩
theorem wi_29 : Cond.instanceMethod yX4_init ∈ bigW := (tm1 (i := 216) rfl rfl)
theorem wd_30 : zWd zr_30 := fun _ => ⟨(tm3 (i := 10) rfl rfl), rfl, by decide, by decide⟩
theorem wi_30 : Cond.instanceMethod yX4_size ∈ bigW := (tm3 (i := 8) rfl rfl)
theorem ws_30 : Cond.selects yX4_size.cls yX4_size yX4_size ∈ bigW := (tm3 (i := 9) rfl rfl)
theorem wd_31 : zWd zr_31 := fun _ => ⟨(tm3 (i := 74) rfl rfl), rfl, by decide, by decide⟩
theorem wi_31 : Cond.instanceMethod yX4_has ∈ bigW := (tm3 (i := 72) rfl rfl)
theorem ws_31 : Cond.selects yX4_has.cls yX4_has yX4_has ∈ bigW := (tm3 (i := 73) rfl rfl)
theorem wd_32 : zWd zr_32 := fun _ => ⟨(tm3 (i := 78) rfl rfl), rfl, by decide, by decide⟩
theorem wi_32 : Cond.instanceMethod yX4_at ∈ bigW := (tm3 (i := 76) rfl rfl)
theorem ws_32 : Cond.selects yX4_at.cls yX4_at yX4_at ∈ bigW := (tm3 (i := 77) rfl rfl)
theorem wd_33 : zWd zr_33 := fun _ => ⟨(tm3 (i := 15) rfl rfl), rfl, by decide, by decide⟩
theorem wi_33 : Cond.instanceMethod yX4_add ∈ bigW := (tm3 (i := 13) rfl rfl)
theorem ws_33 : Cond.selects yX4_add.cls yX4_add yX4_add ∈ bigW := (tm3 (i := 14) rfl rfl)
theorem wd_34 : zWd zr_34 := fun _ => ⟨(tm3 (i := 163) rfl rfl), rfl, by decide, by decide⟩
theorem wi_34 : Cond.instanceMethod yX4_all ∈ bigW := (tm3 (i := 161) rfl rfl)
theorem ws_34 : Cond.selects yX4_all.cls yX4_all yX4_all ∈ bigW := (tm3 (i := 162) rfl rfl)
theorem wd_35 : zWd zr_35 := fun _ => ⟨(tm3 (i := 108) rfl rfl), rfl, by decide, by decide⟩
theorem wi_35 : Cond.instanceMethod yX4_renewUses ∈ bigW := (tm3 (i := 106) rfl rfl)
theorem ws_35 : Cond.selects yX4_renewUses.cls yX4_renewUses yX4_renewUses ∈ bigW := (tm3 (i := 107) rfl rfl)
theorem wd_36 : zWd zr_36 := fun _ => ⟨(tm3 (i := 101) rfl rfl), rfl, by decide, by decide⟩
theorem wi_36 : Cond.instanceMethod yX4_withAllUsed ∈ bigW := (tm3 (i := 99) rfl rfl)
theorem ws_36 : Cond.selects yX4_withAllUsed.cls yX4_withAllUsed yX4_withAllUsed ∈ bigW := (tm3 (i := 100) rfl rfl)
theorem wd_37 : zWd zr_37 := fun _ => ⟨(tm3 (i := 90) rfl rfl), rfl, by decide, by decide⟩
theorem wi_37 : Cond.instanceMethod yX4_wouldCircleByInput ∈ bigW := (tm3 (i := 88) rfl rfl)
theorem ws_37 : Cond.selects yX4_wouldCircleByInput.cls yX4_wouldCircleByInput yX4_wouldCircleByInput ∈ bigW := (tm3 (i := 89) rfl rfl)
theorem wd_38 : zWd zr_38 := fun _ => ⟨(tm3 (i := 117) rfl rfl), rfl, by decide, by decide⟩
theorem wi_38 : Cond.instanceMethod yX4_wouldCircleByOutput ∈ bigW := (tm3 (i := 115) rfl rfl)
theorem ws_38 : Cond.selects yX4_wouldCircleByOutput.cls yX4_wouldCircleByOutput yX4_wouldCircleByOutput ∈ bigW := (tm3 (i := 116) rfl rfl)
theorem wd_39 : zWd zr_39 := fun _ => ⟨(tm3 (i := 173) rfl rfl), rfl, by decide, by decide⟩
theorem wi_39 : Cond.instanceMethod yX4_leastReady ∈ bigW := (tm3 (i := 171) rfl rfl)
theorem ws_39 : Cond.selects yX4_leastReady.cls yX4_leastReady yX4_leastReady ∈ bigW := (tm3 (i := 172) rfl rfl)
theorem wd_40 : zWd zr_40 := fun _ => ⟨(tm2 (i := 62) rfl rfl), rfl, by decide, by decide⟩
theorem wi_40 : Cond.instanceMethod yX5_init ∈ bigW := (tm2 (i := 61) rfl rfl)
theorem wd_41 : zWd zr_41 := fun _ => ⟨(tm3 (i := 181) rfl rfl), rfl, by decide, by decide⟩
theorem wi_41 : Cond.instanceMethod yX5_describe ∈ bigW := (tm3 (i := 179) rfl rfl)
theorem ws_41 : Cond.selects yX5_describe.cls yX5_describe yX5_describe ∈ bigW := (tm3 (i := 180) rfl rfl)
theorem wd_42 : zWd zr_42 := fun _ => ⟨(tm3 (i := 192) rfl rfl), rfl, by decide, by decide⟩
theorem wi_42 : Cond.instanceMethod yX5_putPart ∈ bigW := (tm3 (i := 191) rfl rfl)
theorem ws_42 : Cond.selects yX5_putPart.cls yX5_putPart yX5_putPart ∈ bigW := tmS (i := 8) rfl rfl
theorem wd_43 : zWd zr_43 := fun _ => ⟨(tm3 (i := 196) rfl rfl), rfl, by decide, by decide⟩
theorem wi_43 : Cond.instanceMethod yX5_putListed ∈ bigW := (tm3 (i := 195) rfl rfl)
theorem ws_43 : Cond.selects yX5_putListed.cls yX5_putListed yX5_putListed ∈ bigW := tmS (i := 9) rfl rfl
theorem wd_44 : zWd zr_44 := fun _ => ⟨(tm3 (i := 209) rfl rfl), rfl, by decide, by decide⟩
theorem wi_44 : Cond.instanceMethod yX5_putContent ∈ bigW := (tm3 (i := 208) rfl rfl)
theorem ws_44 : Cond.selects yX5_putContent.cls yX5_putContent yX5_putContent ∈ bigW := tmS (i := 10) rfl rfl
theorem wd_45 : zWd zr_45 := fun _ => ⟨(tm3 (i := 186) rfl rfl), rfl, by decide, by decide⟩
theorem wi_45 : Cond.instanceMethod yX5_put ∈ bigW := (tm3 (i := 185) rfl rfl)
theorem ws_45 : Cond.selects yX5_put.cls yX5_put yX5_put ∈ bigW := tmS (i := 7) rfl rfl
theorem wd_46 : zWd zr_46 := fun _ => ⟨(tm4 (i := 48) rfl rfl), rfl, by decide, by decide⟩
theorem wi_46 : Cond.instanceMethod yX5_become ∈ bigW := (tm4 (i := 46) rfl rfl)
theorem ws_46 : Cond.selects yX5_become.cls yX5_become yX5_become ∈ bigW := (tm4 (i := 47) rfl rfl)
theorem wd_47 : zWd zr_47 := fun _ => ⟨(tm3 (i := 229) rfl rfl), rfl, by decide, by decide⟩
theorem wi_47 : Cond.instanceMethod yX5_sign ∈ bigW := (tm3 (i := 227) rfl rfl)
theorem ws_47 : Cond.selects yX5_sign.cls yX5_sign yX5_sign ∈ bigW := (tm3 (i := 228) rfl rfl)
theorem wd_48 : zWd zr_48 := fun _ => ⟨(tm3 (i := 217) rfl rfl), rfl, by decide, by decide⟩
theorem wi_48 : Cond.instanceMethod yX5_sameAs ∈ bigW := (tm3 (i := 215) rfl rfl)
theorem ws_48 : Cond.selects yX5_sameAs.cls yX5_sameAs yX5_sameAs ∈ bigW := (tm3 (i := 216) rfl rfl)
theorem wd_49 : zWd zr_49 := fun _ => ⟨(tm3 (i := 221) rfl rfl), rfl, by decide, by decide⟩
theorem wi_49 : Cond.instanceMethod yX5_firstOther ∈ bigW := (tm3 (i := 220) rfl rfl)
theorem ws_49 : Cond.selects yX5_firstOther.cls yX5_firstOther yX5_firstOther ∈ bigW := tmS (i := 11) rfl rfl
theorem wd_50 : zWd zr_50 := fun _ => ⟨(tm3 (i := 213) rfl rfl), rfl, by decide, by decide⟩
theorem wi_50 : Cond.instanceMethod yX5_changeSince ∈ bigW := (tm3 (i := 211) rfl rfl)
theorem ws_50 : Cond.selects yX5_changeSince.cls yX5_changeSince yX5_changeSince ∈ bigW := (tm3 (i := 212) rfl rfl)
theorem wd_51 : zWd zr_51 := fun _ => ⟨(tm2 (i := 33) rfl rfl), rfl, by decide, by decide⟩
theorem wi_51 : Cond.instanceMethod yX6_init ∈ bigW := (tm2 (i := 32) rfl rfl)
theorem wd_52 : zWd zr_52 := fun _ => ⟨(tm4 (i := 222) rfl rfl), rfl, by decide, by decide⟩
theorem wi_52 : Cond.instanceMethod yX6_reset ∈ bigW := (tm4 (i := 220) rfl rfl)
theorem ws_52 : Cond.selects yX6_reset.cls yX6_reset yX6_reset ∈ bigW := (tm4 (i := 221) rfl rfl)
theorem wd_53 : zWd zr_53 := fun _ => ⟨(tm3 (i := 169) rfl rfl), rfl, by decide, by decide⟩
theorem wi_53 : Cond.instanceMethod yX6_begin ∈ bigW := (tm3 (i := 167) rfl rfl)
theorem ws_53 : Cond.selects yX6_begin.cls yX6_begin yX6_begin ∈ bigW := (tm3 (i := 168) rfl rfl)
theorem wd_54 : zWd zr_54 := fun _ => ⟨(tm4 (i := 146) rfl rfl), rfl, by decide, by decide⟩
theorem wi_54 : Cond.instanceMethod yX6_add ∈ bigW := (tm4 (i := 144) rfl rfl)
theorem ws_54 : Cond.selects yX6_add.cls yX6_add yX6_add ∈ bigW := (tm4 (i := 145) rfl rfl)
theorem wd_55 : zWd zr_55 := fun _ => ⟨(tm2 (i := 84) rfl rfl), rfl, by decide, by decide⟩
theorem wi_55 : Cond.instanceMethod yX7_init ∈ bigW := (tm2 (i := 83) rfl rfl)
theorem wd_56 : zWd zr_56 := fun _ => ⟨(tm4 (i := 63) rfl rfl), rfl, by decide, by decide⟩
theorem wi_56 : Cond.instanceMethod yX7_begin ∈ bigW := (tm4 (i := 61) rfl rfl)
theorem ws_56 : Cond.selects yX7_begin.cls yX7_begin yX7_begin ∈ bigW := (tm4 (i := 62) rfl rfl)
theorem wd_57 : zWd zr_57 := fun _ => ⟨(tm4 (i := 68) rfl rfl), rfl, by decide, by decide⟩
theorem wi_57 : Cond.instanceMethod yX7_fail ∈ bigW := (tm4 (i := 66) rfl rfl)
theorem ws_57 : Cond.selects yX7_fail.cls yX7_fail yX7_fail ∈ bigW := (tm4 (i := 67) rfl rfl)
theorem wd_58 : zWd zr_58 := fun _ => ⟨(tm4 (i := 154) rfl rfl), rfl, by decide, by decide⟩
theorem wi_58 : Cond.instanceMethod yX7_size ∈ bigW := (tm4 (i := 152) rfl rfl)
theorem ws_58 : Cond.selects yX7_size.cls yX7_size yX7_size ∈ bigW := (tm4 (i := 153) rfl rfl)
theorem wd_59 : zWd zr_59 := fun _ => ⟨(tm1 (i := 76) rfl rfl), rfl, by decide, by decide⟩
theorem wi_59 : Cond.instanceMethod yX8_init ∈ bigW := (tm1 (i := 75) rfl rfl)
theorem wd_60 : zWd zr_60 := fun _ => ⟨(tm2 (i := 174) rfl rfl), rfl, by decide, by decide⟩
theorem wi_60 : Cond.instanceMethod yX8_addFile ∈ bigW := (tm2 (i := 172) rfl rfl)
theorem ws_60 : Cond.selects yX8_addFile.cls yX8_addFile yX8_addFile ∈ bigW := (tm2 (i := 173) rfl rfl)
theorem wd_61 : zWd zr_61 := fun _ => ⟨(tm3 (i := 122) rfl rfl), rfl, by decide, by decide⟩
theorem wi_61 : Cond.instanceMethod yX8_madeBy ∈ bigW := (tm3 (i := 120) rfl rfl)
theorem ws_61 : Cond.selects yX8_madeBy.cls yX8_madeBy yX8_madeBy ∈ bigW := (tm3 (i := 121) rfl rfl)
theorem wd_62 : zWd zr_62 := fun _ => ⟨(tm3 (i := 94) rfl rfl), rfl, by decide, by decide⟩
theorem wi_62 : Cond.instanceMethod yX8_makers ∈ bigW := (tm3 (i := 92) rfl rfl)
theorem ws_62 : Cond.selects yX8_makers.cls yX8_makers yX8_makers ∈ bigW := (tm3 (i := 93) rfl rfl)
theorem wd_63 : zWd zr_63 := fun _ => ⟨(tm3 (i := 200) rfl rfl), rfl, by decide, by decide⟩
theorem wi_63 : Cond.instanceMethod yX8_listed ∈ bigW := (tm3 (i := 198) rfl rfl)
theorem ws_63 : Cond.selects yX8_listed.cls yX8_listed yX8_listed ∈ bigW := (tm3 (i := 199) rfl rfl)
theorem wd_64 : zWd zr_64 := fun _ => ⟨(tm2 (i := 18) rfl rfl), rfl, by decide, by decide⟩
theorem wi_64 : Cond.instanceMethod yX9_init ∈ bigW := (tm2 (i := 17) rfl rfl)
theorem wd_65 : zWd zr_65 := fun _ => ⟨(tm4 (i := 58) rfl rfl), rfl, by decide, by decide⟩
theorem wi_65 : Cond.instanceMethod yX9_run ∈ bigW := (tm4 (i := 56) rfl rfl)
theorem ws_65 : Cond.selects yX9_run.cls yX9_run yX9_run ∈ bigW := (tm4 (i := 57) rfl rfl)
theorem wd_66 : zWd zr_66 := fun _ => ⟨(tm4 (i := 72) rfl rfl), rfl, by decide, by decide⟩
theorem wi_66 : Cond.instanceMethod yX9_perform ∈ bigW := (tm4 (i := 71) rfl rfl)
theorem ws_66 : Cond.selects yX9_perform.cls yX9_perform yX9_perform ∈ bigW := tmS (i := 13) rfl rfl
theorem wd_67 : zWd zr_67 := fun _ => ⟨(tm4 (i := 102) rfl rfl), rfl, by decide, by decide⟩
theorem wi_67 : Cond.instanceMethod yX9_reshape ∈ bigW := (tm4 (i := 101) rfl rfl)
theorem ws_67 : Cond.selects yX9_reshape.cls yX9_reshape yX9_reshape ∈ bigW := tmS (i := 18) rfl rfl
theorem wd_68 : zWd zr_68 := fun _ => ⟨(tm4 (i := 76) rfl rfl), rfl, by decide, by decide⟩
theorem wi_68 : Cond.instanceMethod yX9_readInput ∈ bigW := (tm4 (i := 75) rfl rfl)
theorem ws_68 : Cond.selects yX9_readInput.cls yX9_readInput yX9_readInput ∈ bigW := tmS (i := 14) rfl rfl
theorem wd_69 : zWd zr_69 := fun _ => ⟨(tm4 (i := 89) rfl rfl), rfl, by decide, by decide⟩
theorem wi_69 : Cond.instanceMethod yX9_listInput ∈ bigW := (tm4 (i := 88) rfl rfl)
theorem ws_69 : Cond.selects yX9_listInput.cls yX9_listInput yX9_listInput ∈ bigW := tmS (i := 15) rfl rfl
theorem wd_70 : zWd zr_70 := fun _ => ⟨(tm4 (i := 93) rfl rfl), rfl, by decide, by decide⟩
theorem wi_70 : Cond.instanceMethod yX9_writeOutput ∈ bigW := (tm4 (i := 92) rfl rfl)
theorem ws_70 : Cond.selects yX9_writeOutput.cls yX9_writeOutput yX9_writeOutput ∈ bigW := tmS (i := 16) rfl rfl
theorem wd_71 : zWd zr_71 := fun _ => ⟨(tm4 (i := 98) rfl rfl), rfl, by decide, by decide⟩
theorem wi_71 : Cond.instanceMethod yX9_skipFor ∈ bigW := (tm4 (i := 97) rfl rfl)
theorem ws_71 : Cond.selects yX9_skipFor.cls yX9_skipFor yX9_skipFor ∈ bigW := tmS (i := 17) rfl rfl
theorem wd_72 : zWd zr_72 := fun _ => ⟨(tm1 (i := 36) rfl rfl), rfl, by decide, by decide⟩
theorem wi_72 : Cond.instanceMethod yX10_init ∈ bigW := (tm1 (i := 35) rfl rfl)
theorem wd_73 : zWd zr_73 := fun _ => ⟨(tm1 (i := 67) rfl rfl), rfl, by decide, by decide⟩
theorem wi_73 : Cond.instanceMethod yX10_reset ∈ bigW := (tm1 (i := 65) rfl rfl)
theorem ws_73 : Cond.selects yX10_reset.cls yX10_reset yX10_reset ∈ bigW := (tm1 (i := 66) rfl rfl)
theorem wd_74 : zWd zr_74 := fun _ => ⟨(tm2 (i := 165) rfl rfl), rfl, by decide, by decide⟩
theorem wi_74 : Cond.instanceMethod yX10_size ∈ bigW := (tm2 (i := 163) rfl rfl)
theorem ws_74 : Cond.selects yX10_size.cls yX10_size yX10_size ∈ bigW := (tm2 (i := 164) rfl rfl)
theorem wd_75 : zWd zr_75 := fun _ => ⟨(tm2 (i := 135) rfl rfl), rfl, by decide, by decide⟩
theorem wi_75 : Cond.instanceMethod yX10_has ∈ bigW := (tm2 (i := 133) rfl rfl)
theorem ws_75 : Cond.selects yX10_has.cls yX10_has yX10_has ∈ bigW := (tm2 (i := 134) rfl rfl)
theorem wd_76 : zWd zr_76 := fun _ => ⟨(tm2 (i := 143) rfl rfl), rfl, by decide, by decide⟩
theorem wi_76 : Cond.instanceMethod yX10_at ∈ bigW := (tm2 (i := 141) rfl rfl)
theorem ws_76 : Cond.selects yX10_at.cls yX10_at yX10_at ∈ bigW := (tm2 (i := 142) rfl rfl)
theorem wd_77 : zWd zr_77 := fun _ => ⟨(tm2 (i := 161) rfl rfl), rfl, by decide, by decide⟩
theorem wi_77 : Cond.instanceMethod yX10_isTaken ∈ bigW := (tm2 (i := 159) rfl rfl)
theorem ws_77 : Cond.selects yX10_isTaken.cls yX10_isTaken yX10_isTaken ∈ bigW := (tm2 (i := 160) rfl rfl)
theorem wd_78 : zWd zr_78 := fun _ => ⟨(tm2 (i := 169) rfl rfl), rfl, by decide, by decide⟩
theorem wi_78 : Cond.instanceMethod yX10_add ∈ bigW := (tm2 (i := 167) rfl rfl)
theorem ws_78 : Cond.selects yX10_add.cls yX10_add yX10_add ∈ bigW := (tm2 (i := 168) rfl rfl)
theorem wd_79 : zWd zr_79 := fun _ => ⟨(tm2 (i := 229) rfl rfl), rfl, by decide, by decide⟩
theorem wi_79 : Cond.instanceMethod yX10_copySources ∈ bigW := (tm2 (i := 227) rfl rfl)
theorem ws_79 : Cond.selects yX10_copySources.cls yX10_copySources yX10_copySources ∈ bigW := (tm2 (i := 228) rfl rfl)
theorem wd_80 : zWd zr_80 := fun _ => ⟨(tm4 (i := 181) rfl rfl), rfl, by decide, by decide⟩
theorem wi_80 : Cond.instanceMethod yX10_isMadeAlike ∈ bigW := (tm4 (i := 179) rfl rfl)
theorem ws_80 : Cond.selects yX10_isMadeAlike.cls yX10_isMadeAlike yX10_isMadeAlike ∈ bigW := (tm4 (i := 180) rfl rfl)
theorem wd_81 : zWd zr_81 := fun _ => ⟨(tm1 (i := 28) rfl rfl), rfl, by decide, by decide⟩
theorem wi_81 : Cond.instanceMethod yX11_init ∈ bigW := (tm1 (i := 27) rfl rfl)
theorem wd_82 : zWd zr_82 := fun _ => ⟨(tm2 (i := 131) rfl rfl), rfl, by decide, by decide⟩
theorem wi_82 : Cond.instanceMethod yX11_path ∈ bigW := (tm2 (i := 129) rfl rfl)
theorem ws_82 : Cond.selects yX11_path.cls yX11_path yX11_path ∈ bigW := (tm2 (i := 130) rfl rfl)
theorem wd_83 : zWd zr_83 := fun _ => ⟨(tm2 (i := 190) rfl rfl), rfl, by decide, by decide⟩
theorem wi_83 : Cond.instanceMethod yX11_of ∈ bigW := (tm2 (i := 188) rfl rfl)
theorem ws_83 : Cond.selects yX11_of.cls yX11_of yX11_of ∈ bigW := (tm2 (i := 189) rfl rfl)
theorem wd_84 : zWd zr_84 := fun _ => ⟨(tm2 (i := 194) rfl rfl), rfl, by decide, by decide⟩
theorem wi_84 : Cond.instanceMethod yX11_feed ∈ bigW := (tm2 (i := 192) rfl rfl)
theorem ws_84 : Cond.selects yX11_feed.cls yX11_feed yX11_feed ∈ bigW := (tm2 (i := 193) rfl rfl)
theorem wd_85 : zWd zr_85 := fun _ => ⟨(tm2 (i := 202) rfl rfl), rfl, by decide, by decide⟩
theorem wi_85 : Cond.instanceMethod yX11_write ∈ bigW := (tm2 (i := 200) rfl rfl)
theorem ws_85 : Cond.selects yX11_write.cls yX11_write yX11_write ∈ bigW := (tm2 (i := 201) rfl rfl)
theorem wd_86 : zWd zr_86 := fun _ => ⟨(tm2 (i := 221) rfl rfl), rfl, by decide, by decide⟩
theorem wi_86 : Cond.instanceMethod yX11_remove ∈ bigW := (tm2 (i := 219) rfl rfl)
theorem ws_86 : Cond.selects yX11_remove.cls yX11_remove yX11_remove ∈ bigW := (tm2 (i := 220) rfl rfl)
theorem wd_87 : zWd zr_87 := fun _ => ⟨(tm2 (i := 225) rfl rfl), rfl, by decide, by decide⟩
theorem wi_87 : Cond.instanceMethod yX11_copy ∈ bigW := (tm2 (i := 223) rfl rfl)
theorem ws_87 : Cond.selects yX11_copy.cls yX11_copy yX11_copy ∈ bigW := (tm2 (i := 224) rfl rfl)
theorem wd_88 : zWd zr_88 := fun _ => ⟨(tm2 (i := 238) rfl rfl), rfl, by decide, by decide⟩
theorem wi_88 : Cond.instanceMethod yX11_length ∈ bigW := (tm2 (i := 236) rfl rfl)
theorem ws_88 : Cond.selects yX11_length.cls yX11_length yX11_length ∈ bigW := (tm2 (i := 237) rfl rfl)
theorem wd_89 : zWd zr_89 := fun _ => ⟨(tm3 (i := 2) rfl rfl), rfl, by decide, by decide⟩
theorem wi_89 : Cond.instanceMethod yX11_byteAt ∈ bigW := (tm3 (i := 0) rfl rfl)
theorem ws_89 : Cond.selects yX11_byteAt.cls yX11_byteAt yX11_byteAt ∈ bigW := (tm3 (i := 1) rfl rfl)
theorem wd_90 : zWd zr_90 := fun _ => ⟨(tm3 (i := 6) rfl rfl), rfl, by decide, by decide⟩
theorem wi_90 : Cond.instanceMethod yX11_action ∈ bigW := (tm3 (i := 4) rfl rfl)
theorem ws_90 : Cond.selects yX11_action.cls yX11_action yX11_action ∈ bigW := (tm3 (i := 5) rfl rfl)
theorem wd_91 : zWd zr_91 := fun _ => ⟨(tm3 (i := 70) rfl rfl), rfl, by decide, by decide⟩
theorem wi_91 : Cond.instanceMethod yX11_input ∈ bigW := (tm3 (i := 68) rfl rfl)
theorem ws_91 : Cond.selects yX11_input.cls yX11_input yX11_input ∈ bigW := (tm3 (i := 69) rfl rfl)
theorem wd_92 : zWd zr_92 := fun _ => ⟨(tm3 (i := 113) rfl rfl), rfl, by decide, by decide⟩
theorem wi_92 : Cond.instanceMethod yX11_output ∈ bigW := (tm3 (i := 111) rfl rfl)
theorem ws_92 : Cond.selects yX11_output.cls yX11_output yX11_output ∈ bigW := (tm3 (i := 112) rfl rfl)
theorem wd_93 : zWd zr_93 := fun _ => ⟨(tm3 (i := 126) rfl rfl), rfl, by decide, by decide⟩
theorem wi_93 : Cond.instanceMethod yX11_step ∈ bigW := (tm3 (i := 124) rfl rfl)
theorem ws_93 : Cond.selects yX11_step.cls yX11_step yX11_step ∈ bigW := (tm3 (i := 125) rfl rfl)
theorem wd_94 : zWd zr_94 := fun _ => ⟨(tm3 (i := 134) rfl rfl), rfl, by decide, by decide⟩
theorem wi_94 : Cond.instanceMethod yX11_erase ∈ bigW := (tm3 (i := 132) rfl rfl)
theorem ws_94 : Cond.selects yX11_erase.cls yX11_erase yX11_erase ∈ bigW := (tm3 (i := 133) rfl rfl)
theorem wd_95 : zWd zr_95 := fun _ => ⟨(tm3 (i := 144) rfl rfl), rfl, by decide, by decide⟩
theorem wi_95 : Cond.instanceMethod yX11_about ∈ bigW := (tm3 (i := 142) rfl rfl)
theorem ws_95 : Cond.selects yX11_about.cls yX11_about yX11_about ∈ bigW := (tm3 (i := 143) rfl rfl)
theorem wd_96 : zWd zr_96 := fun _ => ⟨(tm3 (i := 154) rfl rfl), rfl, by decide, by decide⟩
theorem wi_96 : Cond.instanceMethod yX11_uses ∈ bigW := (tm3 (i := 152) rfl rfl)
theorem ws_96 : Cond.selects yX11_uses.cls yX11_uses yX11_uses ∈ bigW := (tm3 (i := 153) rfl rfl)
theorem wd_97 : zWd zr_97 := fun _ => ⟨(tm3 (i := 159) rfl rfl), rfl, by decide, by decide⟩
theorem wi_97 : Cond.instanceMethod yX11_build ∈ bigW := (tm3 (i := 157) rfl rfl)
theorem ws_97 : Cond.selects yX11_build.cls yX11_build yX11_build ∈ bigW := (tm3 (i := 158) rfl rfl)
theorem wd_98 : zWd zr_98 := fun _ => ⟨(tm4 (i := 164) rfl rfl), rfl, by decide, by decide⟩
theorem wi_98 : Cond.instanceMethod yX11_done ∈ bigW := (tm4 (i := 162) rfl rfl)
theorem ws_98 : Cond.selects yX11_done.cls yX11_done yX11_done ∈ bigW := (tm4 (i := 163) rfl rfl)
theorem wd_99 : zWd zr_99 := fun _ => ⟨(tm4 (i := 168) rfl rfl), rfl, by decide, by decide⟩
theorem wi_99 : Cond.instanceMethod yX11_changed ∈ bigW := (tm4 (i := 166) rfl rfl)
theorem ws_99 : Cond.selects yX11_changed.cls yX11_changed yX11_changed ∈ bigW := (tm4 (i := 167) rfl rfl)
theorem wd_100 : zWd zr_100 := fun _ => ⟨(tm4 (i := 172) rfl rfl), rfl, by decide, by decide⟩
theorem wi_100 : Cond.instanceMethod yX11_key ∈ bigW := (tm4 (i := 170) rfl rfl)
theorem ws_100 : Cond.selects yX11_key.cls yX11_key yX11_key ∈ bigW := (tm4 (i := 171) rfl rfl)
theorem wd_101 : zWd zr_101 := fun _ => ⟨(tm4 (i := 177) rfl rfl), rfl, by decide, by decide⟩
theorem wi_101 : Cond.instanceMethod yX11_isClean ∈ bigW := (tm4 (i := 175) rfl rfl)
theorem ws_101 : Cond.selects yX11_isClean.cls yX11_isClean yX11_isClean ∈ bigW := (tm4 (i := 176) rfl rfl)
theorem wd_102 : zWd zr_102 := fun _ => ⟨(tm4 (i := 185) rfl rfl), rfl, by decide, by decide⟩
theorem wi_102 : Cond.instanceMethod yX11_capacity ∈ bigW := (tm4 (i := 183) rfl rfl)
theorem ws_102 : Cond.selects yX11_capacity.cls yX11_capacity yX11_capacity ∈ bigW := (tm4 (i := 184) rfl rfl)
theorem wd_103 : zWd zr_103 := fun _ => ⟨(tm4 (i := 190) rfl rfl), rfl, by decide, by decide⟩
theorem wi_103 : Cond.instanceMethod yX11_entry ∈ bigW := (tm4 (i := 188) rfl rfl)
theorem ws_103 : Cond.selects yX11_entry.cls yX11_entry yX11_entry ∈ bigW := (tm4 (i := 189) rfl rfl)
theorem wd_104 : zWd zr_104 := fun _ => ⟨(tm4 (i := 198) rfl rfl), rfl, by decide, by decide⟩
theorem wi_104 : Cond.instanceMethod yX11_forget ∈ bigW := (tm4 (i := 196) rfl rfl)
theorem ws_104 : Cond.selects yX11_forget.cls yX11_forget yX11_forget ∈ bigW := (tm4 (i := 197) rfl rfl)
theorem wd_105 : zWd zr_105 := fun _ => ⟨(tm4 (i := 207) rfl rfl), rfl, by decide, by decide⟩
theorem wi_105 : Cond.instanceMethod yX11_count ∈ bigW := (tm4 (i := 205) rfl rfl)
theorem ws_105 : Cond.selects yX11_count.cls yX11_count yX11_count ∈ bigW := (tm4 (i := 206) rfl rfl)
theorem wd_106 : zWd zr_106 := fun _ => ⟨(tm4 (i := 211) rfl rfl), rfl, by decide, by decide⟩
theorem wi_106 : Cond.instanceMethod yX11_clear ∈ bigW := (tm4 (i := 209) rfl rfl)
theorem ws_106 : Cond.selects yX11_clear.cls yX11_clear yX11_clear ∈ bigW := (tm4 (i := 210) rfl rfl)
theorem wd_107 : zWd zr_107 := fun _ => ⟨(tm2 (i := 213) rfl rfl), rfl, by decide, by decide⟩
theorem wi_107 : Cond.static yX11_isSpace ∈ bigW := (tm2 (i := 212) rfl rfl)
theorem wd_108 : zWd zr_108 := fun _ => ⟨(tm3 (i := 97) rfl rfl), rfl, by decide, by decide⟩
theorem wi_108 : Cond.static yX11_bit ∈ bigW := (tm3 (i := 96) rfl rfl)
theorem wd_109 : zWd zr_109 := fun _ => ⟨(tm2 (i := 210) rfl rfl), rfl, by decide, by decide⟩
theorem wi_109 : Cond.instanceMethod yX11_refusalOfFile ∈ bigW := (tm2 (i := 209) rfl rfl)
theorem ws_109 : Cond.selects yX11_refusalOfFile.cls yX11_refusalOfFile yX11_refusalOfFile ∈ bigW := tmS (i := 5) rfl rfl
theorem wd_110 : zWd zr_110 := fun _ => ⟨(tm2 (i := 206) rfl rfl), rfl, by decide, by decide⟩
theorem wi_110 : Cond.instanceMethod yX11_refusalOfSource ∈ bigW := (tm2 (i := 205) rfl rfl)
theorem ws_110 : Cond.selects yX11_refusalOfSource.cls yX11_refusalOfSource yX11_refusalOfSource ∈ bigW := tmS (i := 4) rfl rfl
theorem wd_111 : zWd zr_111 := fun _ => ⟨(tm3 (i := 177) rfl rfl), rfl, by decide, by decide⟩
theorem wi_111 : Cond.instanceMethod yX11_carryOut ∈ bigW := (tm3 (i := 176) rfl rfl)
theorem ws_111 : Cond.selects yX11_carryOut.cls yX11_carryOut yX11_carryOut ∈ bigW := tmS (i := 6) rfl rfl
theorem wd_112 : zWd zr_112 := fun _ => ⟨(tm4 (i := 227) rfl rfl), rfl, by decide, by decide⟩
theorem wi_112 : Cond.instanceMethod yX12_init ∈ bigW := (tm4 (i := 226) rfl rfl)
theorem wd_113 : zWd zr_113 := fun _ => ⟨(tm5 (i := 165) rfl rfl), rfl, by decide, by decide⟩
theorem wi_113 : Cond.static yX12_in ∈ bigW := (tm5 (i := 164) rfl rfl)
theorem wd_114 : zWd zr_114 := fun _ => ⟨(tm5 (i := 162) rfl rfl), rfl, by decide, by decide⟩
theorem wi_114 : Cond.instanceMethod yX12_isPath ∈ bigW := (tm5 (i := 161) rfl rfl)
theorem ws_114 : Cond.selects yX12_isPath.cls yX12_isPath yX12_isPath ∈ bigW := tmS (i := 20) rfl rfl
theorem wd_115 : zWd zr_115 := fun _ => ⟨(tm5 (i := 222) rfl rfl), rfl, by decide, by decide⟩
theorem wi_115 : Cond.instanceMethod yX12_isAction ∈ bigW := (tm5 (i := 221) rfl rfl)
theorem ws_115 : Cond.selects yX12_isAction.cls yX12_isAction yX12_isAction ∈ bigW := tmS (i := 25) rfl rfl
theorem wd_116 : zWd zr_116 := fun _ => ⟨(tm5 (i := 158) rfl rfl), rfl, by decide, by decide⟩
theorem wi_116 : Cond.instanceMethod yX12_path ∈ bigW := (tm5 (i := 156) rfl rfl)
theorem ws_116 : Cond.selects yX12_path.cls yX12_path yX12_path ∈ bigW := (tm5 (i := 157) rfl rfl)
theorem wd_117 : zWd zr_117 := fun _ => ⟨(tm5 (i := 169) rfl rfl), rfl, by decide, by decide⟩
theorem wi_117 : Cond.instanceMethod yX12_of ∈ bigW := (tm5 (i := 167) rfl rfl)
theorem ws_117 : Cond.selects yX12_of.cls yX12_of yX12_of ∈ bigW := (tm5 (i := 168) rfl rfl)
theorem wd_118 : zWd zr_118 := fun _ => ⟨(tm5 (i := 173) rfl rfl), rfl, by decide, by decide⟩
theorem wi_118 : Cond.instanceMethod yX12_feed ∈ bigW := (tm5 (i := 171) rfl rfl)
theorem ws_118 : Cond.selects yX12_feed.cls yX12_feed yX12_feed ∈ bigW := (tm5 (i := 172) rfl rfl)
theorem wd_119 : zWd zr_119 := fun _ => ⟨(tm5 (i := 182) rfl rfl), rfl, by decide, by decide⟩
theorem wi_119 : Cond.instanceMethod yX12_isBadFile ∈ bigW := (tm5 (i := 181) rfl rfl)
theorem ws_119 : Cond.selects yX12_isBadFile.cls yX12_isBadFile yX12_isBadFile ∈ bigW := tmS (i := 21) rfl rfl
theorem wd_120 : zWd zr_120 := fun _ => ⟨(tm5 (i := 186) rfl rfl), rfl, by decide, by decide⟩
theorem wi_120 : Cond.instanceMethod yX12_isSource ∈ bigW := (tm5 (i := 185) rfl rfl)
theorem ws_120 : Cond.selects yX12_isSource.cls yX12_isSource yX12_isSource ∈ bigW := tmS (i := 22) rfl rfl
theorem wd_121 : zWd zr_121 := fun _ => ⟨(tm5 (i := 178) rfl rfl), rfl, by decide, by decide⟩
theorem wi_121 : Cond.instanceMethod yX12_write ∈ bigW := (tm5 (i := 176) rfl rfl)
theorem ws_121 : Cond.selects yX12_write.cls yX12_write yX12_write ∈ bigW := (tm5 (i := 177) rfl rfl)
theorem wd_122 : zWd zr_122 := fun _ => ⟨(tm5 (i := 190) rfl rfl), rfl, by decide, by decide⟩
theorem wi_122 : Cond.instanceMethod yX12_remove ∈ bigW := (tm5 (i := 188) rfl rfl)
theorem ws_122 : Cond.selects yX12_remove.cls yX12_remove yX12_remove ∈ bigW := (tm5 (i := 189) rfl rfl)
theorem wd_123 : zWd zr_123 := fun _ => ⟨(tm5 (i := 198) rfl rfl), rfl, by decide, by decide⟩
theorem wi_123 : Cond.instanceMethod yX12_isAlike ∈ bigW := (tm5 (i := 197) rfl rfl)
theorem ws_123 : Cond.selects yX12_isAlike.cls yX12_isAlike yX12_isAlike ∈ bigW := tmS (i := 23) rfl rfl
theorem wd_124 : zWd zr_124 := fun _ => ⟨(tm5 (i := 202) rfl rfl), rfl, by decide, by decide⟩
theorem wi_124 : Cond.instanceMethod yX12_copyFile ∈ bigW := (tm5 (i := 201) rfl rfl)
theorem ws_124 : Cond.selects yX12_copyFile.cls yX12_copyFile yX12_copyFile ∈ bigW := tmS (i := 24) rfl rfl
theorem wd_125 : zWd zr_125 := fun _ => ⟨(tm5 (i := 194) rfl rfl), rfl, by decide, by decide⟩
theorem wi_125 : Cond.instanceMethod yX12_copy ∈ bigW := (tm5 (i := 192) rfl rfl)
theorem ws_125 : Cond.selects yX12_copy.cls yX12_copy yX12_copy ∈ bigW := (tm5 (i := 193) rfl rfl)
theorem wd_126 : zWd zr_126 := fun _ => ⟨(tm5 (i := 206) rfl rfl), rfl, by decide, by decide⟩
theorem wi_126 : Cond.instanceMethod yX12_length ∈ bigW := (tm5 (i := 204) rfl rfl)
theorem ws_126 : Cond.selects yX12_length.cls yX12_length yX12_length ∈ bigW := (tm5 (i := 205) rfl rfl)
theorem wd_127 : zWd zr_127 := fun _ => ⟨(tm5 (i := 210) rfl rfl), rfl, by decide, by decide⟩
theorem wi_127 : Cond.instanceMethod yX12_byteAt ∈ bigW := (tm5 (i := 208) rfl rfl)
theorem ws_127 : Cond.selects yX12_byteAt.cls yX12_byteAt yX12_byteAt ∈ bigW := (tm5 (i := 209) rfl rfl)
theorem wd_128 : zWd zr_128 := fun _ => ⟨(tm5 (i := 214) rfl rfl), rfl, by decide, by decide⟩
theorem wi_128 : Cond.instanceMethod yX12_action ∈ bigW := (tm5 (i := 212) rfl rfl)
theorem ws_128 : Cond.selects yX12_action.cls yX12_action yX12_action ∈ bigW := (tm5 (i := 213) rfl rfl)
theorem wd_129 : zWd zr_129 := fun _ => ⟨(tm5 (i := 234) rfl rfl), rfl, by decide, by decide⟩
theorem wi_129 : Cond.instanceMethod yX12_isUsed ∈ bigW := (tm5 (i := 233) rfl rfl)
theorem ws_129 : Cond.selects yX12_isUsed.cls yX12_isUsed yX12_isUsed ∈ bigW := tmS (i := 28) rfl rfl
theorem wd_130 : zWd zr_130 := fun _ => ⟨(tm5 (i := 230) rfl rfl), rfl, by decide, by decide⟩
theorem wi_130 : Cond.instanceMethod yX12_reach ∈ bigW := (tm5 (i := 229) rfl rfl)
theorem ws_130 : Cond.selects yX12_reach.cls yX12_reach yX12_reach ∈ bigW := tmS (i := 27) rfl rfl
theorem wd_131 : zWd zr_131 := fun _ => ⟨(tm5 (i := 238) rfl rfl), rfl, by decide, by decide⟩
theorem wi_131 : Cond.instanceMethod yX12_isCircle ∈ bigW := (tm5 (i := 237) rfl rfl)
theorem ws_131 : Cond.selects yX12_isCircle.cls yX12_isCircle yX12_isCircle ∈ bigW := tmS (i := 29) rfl rfl
theorem wd_132 : zWd zr_132 := fun _ => ⟨(tm5 (i := 218) rfl rfl), rfl, by decide, by decide⟩
theorem wi_132 : Cond.instanceMethod yX12_input ∈ bigW := (tm5 (i := 216) rfl rfl)
theorem ws_132 : Cond.selects yX12_input.cls yX12_input yX12_input ∈ bigW := (tm5 (i := 217) rfl rfl)
theorem wd_133 : zWd zr_133 := fun _ => ⟨(tm5 (i := 226) rfl rfl), rfl, by decide, by decide⟩
theorem wi_133 : Cond.instanceMethod yX12_comesToItself ∈ bigW := (tm5 (i := 225) rfl rfl)
theorem ws_133 : Cond.selects yX12_comesToItself.cls yX12_comesToItself yX12_comesToItself ∈ bigW := tmS (i := 26) rfl rfl
theorem wd_134 : zWd zr_134 := fun _ => ⟨(tm6 (i := 2) rfl rfl), rfl, by decide, by decide⟩
theorem wi_134 : Cond.instanceMethod yX12_output ∈ bigW := (tm6 (i := 0) rfl rfl)
theorem ws_134 : Cond.selects yX12_output.cls yX12_output yX12_output ∈ bigW := (tm6 (i := 1) rfl rfl)
theorem wd_135 : zWd zr_135 := fun _ => ⟨(tm6 (i := 6) rfl rfl), rfl, by decide, by decide⟩
theorem wi_135 : Cond.instanceMethod yX12_step ∈ bigW := (tm6 (i := 4) rfl rfl)
theorem ws_135 : Cond.selects yX12_step.cls yX12_step yX12_step ∈ bigW := (tm6 (i := 5) rfl rfl)
theorem wd_136 : zWd zr_136 := fun _ => ⟨(tm6 (i := 10) rfl rfl), rfl, by decide, by decide⟩
theorem wi_136 : Cond.instanceMethod yX12_erase ∈ bigW := (tm6 (i := 8) rfl rfl)
theorem ws_136 : Cond.selects yX12_erase.cls yX12_erase yX12_erase ∈ bigW := (tm6 (i := 9) rfl rfl)
theorem wd_137 : zWd zr_137 := fun _ => ⟨(tm6 (i := 14) rfl rfl), rfl, by decide, by decide⟩
theorem wi_137 : Cond.instanceMethod yX12_about ∈ bigW := (tm6 (i := 12) rfl rfl)
theorem ws_137 : Cond.selects yX12_about.cls yX12_about yX12_about ∈ bigW := (tm6 (i := 13) rfl rfl)
theorem wd_138 : zWd zr_138 := fun _ => ⟨(tm6 (i := 18) rfl rfl), rfl, by decide, by decide⟩
theorem wi_138 : Cond.instanceMethod yX12_uses ∈ bigW := (tm6 (i := 16) rfl rfl)
theorem ws_138 : Cond.selects yX12_uses.cls yX12_uses yX12_uses ∈ bigW := (tm6 (i := 17) rfl rfl)
theorem wd_139 : zWd zr_139 := fun _ => ⟨(tm6 (i := 34) rfl rfl), rfl, by decide, by decide⟩
theorem wi_139 : Cond.instanceMethod yX12_mix ∈ bigW := (tm6 (i := 33) rfl rfl)
theorem ws_139 : Cond.selects yX12_mix.cls yX12_mix yX12_mix ∈ bigW := tmS (i := 32) rfl rfl
theorem wd_140 : zWd zr_140 := fun _ => ⟨(tm6 (i := 30) rfl rfl), rfl, by decide, by decide⟩
theorem wi_140 : Cond.instanceMethod yX12_mixHead ∈ bigW := (tm6 (i := 29) rfl rfl)
theorem ws_140 : Cond.selects yX12_mixHead.cls yX12_mixHead yX12_mixHead ∈ bigW := tmS (i := 31) rfl rfl
theorem wd_141 : zWd zr_141 := fun _ => ⟨(tm6 (i := 42) rfl rfl), rfl, by decide, by decide⟩
theorem wi_141 : Cond.instanceMethod yX12_list ∈ bigW := (tm6 (i := 41) rfl rfl)
theorem ws_141 : Cond.selects yX12_list.cls yX12_list yX12_list ∈ bigW := tmS (i := 34) rfl rfl
theorem wd_142 : zWd zr_142 := fun _ => ⟨(tm6 (i := 38) rfl rfl), rfl, by decide, by decide⟩
theorem wi_142 : Cond.instanceMethod yX12_mixPart ∈ bigW := (tm6 (i := 37) rfl rfl)
theorem ws_142 : Cond.selects yX12_mixPart.cls yX12_mixPart yX12_mixPart ∈ bigW := tmS (i := 33) rfl rfl
theorem wd_143 : zWd zr_143 := fun _ => ⟨(tm6 (i := 26) rfl rfl), rfl, by decide, by decide⟩
theorem wi_143 : Cond.instanceMethod yX12_layKey ∈ bigW := (tm6 (i := 25) rfl rfl)
theorem ws_143 : Cond.selects yX12_layKey.cls yX12_layKey yX12_layKey ∈ bigW := tmS (i := 30) rfl rfl
theorem wd_144 : zWd zr_144 := fun _ => ⟨(tm6 (i := 45) rfl rfl), rfl, by decide, by decide⟩
theorem wi_144 : Cond.static yX12_signOf ∈ bigW := (tm6 (i := 44) rfl rfl)
theorem wd_145 : zWd zr_145 := fun _ => ⟨(tm6 (i := 22) rfl rfl), rfl, by decide, by decide⟩
theorem wi_145 : Cond.instanceMethod yX12_key ∈ bigW := (tm6 (i := 20) rfl rfl)
theorem ws_145 : Cond.selects yX12_key.cls yX12_key yX12_key ∈ bigW := (tm6 (i := 21) rfl rfl)
theorem wd_146 : zWd zr_146 := fun _ => ⟨(tm6 (i := 59) rfl rfl), rfl, by decide, by decide⟩
theorem wi_146 : Cond.instanceMethod yX12_isRow ∈ bigW := (tm6 (i := 58) rfl rfl)
theorem ws_146 : Cond.selects yX12_isRow.cls yX12_isRow yX12_isRow ∈ bigW := tmS (i := 36) rfl rfl
theorem wd_147 : zWd zr_147 := fun _ => ⟨(tm6 (i := 55) rfl rfl), rfl, by decide, by decide⟩
theorem wi_147 : Cond.instanceMethod yX12_changedOf ∈ bigW := (tm6 (i := 54) rfl rfl)
theorem ws_147 : Cond.selects yX12_changedOf.cls yX12_changedOf yX12_changedOf ∈ bigW := tmS (i := 35) rfl rfl
theorem wd_148 : zWd zr_148 := fun _ => ⟨(tm6 (i := 51) rfl rfl), rfl, by decide, by decide⟩
theorem wi_148 : Cond.instanceMethod yX12_changed ∈ bigW := (tm6 (i := 49) rfl rfl)
theorem ws_148 : Cond.selects yX12_changed.cls yX12_changed yX12_changed ∈ bigW := (tm6 (i := 50) rfl rfl)
theorem wd_149 : zWd zr_149 := fun _ => ⟨(tm6 (i := 79) rfl rfl), rfl, by decide, by decide⟩
theorem wi_149 : Cond.instanceMethod yX12_note ∈ bigW := (tm6 (i := 78) rfl rfl)
theorem ws_149 : Cond.selects yX12_note.cls yX12_note yX12_note ∈ bigW := tmS (i := 40) rfl rfl
theorem wd_150 : zWd zr_150 := fun _ => ⟨(tm6 (i := 99) rfl rfl), rfl, by decide, by decide⟩
theorem wi_150 : Cond.instanceMethod yX12_add ∈ bigW := (tm6 (i := 98) rfl rfl)
theorem ws_150 : Cond.selects yX12_add.cls yX12_add yX12_add ∈ bigW := tmS (i := 45) rfl rfl
theorem wd_151 : zWd zr_151 := fun _ => ⟨(tm6 (i := 111) rfl rfl), rfl, by decide, by decide⟩
theorem wi_151 : Cond.instanceMethod yX12_figures ∈ bigW := (tm6 (i := 110) rfl rfl)
theorem ws_151 : Cond.selects yX12_figures.cls yX12_figures yX12_figures ∈ bigW := tmS (i := 48) rfl rfl
theorem wd_152 : zWd zr_152 := fun _ => ⟨(tm6 (i := 131) rfl rfl), rfl, by decide, by decide⟩
theorem wi_152 : Cond.instanceMethod yX12_read ∈ bigW := (tm6 (i := 130) rfl rfl)
theorem ws_152 : Cond.selects yX12_read.cls yX12_read yX12_read ∈ bigW := tmS (i := 53) rfl rfl
theorem wd_153 : zWd zr_153 := fun _ => ⟨(tm6 (i := 135) rfl rfl), rfl, by decide, by decide⟩
theorem wi_153 : Cond.instanceMethod yX12_listIn ∈ bigW := (tm6 (i := 134) rfl rfl)
theorem ws_153 : Cond.selects yX12_listIn.cls yX12_listIn yX12_listIn ∈ bigW := tmS (i := 54) rfl rfl
theorem wd_154 : zWd zr_154 := fun _ => ⟨(tm6 (i := 91) rfl rfl), rfl, by decide, by decide⟩
theorem wi_154 : Cond.instanceMethod yX12_writeOut ∈ bigW := (tm6 (i := 90) rfl rfl)
theorem ws_154 : Cond.selects yX12_writeOut.cls yX12_writeOut yX12_writeOut ∈ bigW := tmS (i := 43) rfl rfl
theorem wd_155 : zWd zr_155 := fun _ => ⟨(tm6 (i := 103) rfl rfl), rfl, by decide, by decide⟩
theorem wi_155 : Cond.instanceMethod yX12_turn ∈ bigW := (tm6 (i := 102) rfl rfl)
theorem ws_155 : Cond.selects yX12_turn.cls yX12_turn yX12_turn ∈ bigW := tmS (i := 46) rfl rfl
theorem wd_156 : zWd zr_156 := fun _ => ⟨(tm6 (i := 107) rfl rfl), rfl, by decide, by decide⟩
theorem wi_156 : Cond.instanceMethod yX12_sort ∈ bigW := (tm6 (i := 106) rfl rfl)
theorem ws_156 : Cond.selects yX12_sort.cls yX12_sort yX12_sort ∈ bigW := tmS (i := 47) rfl rfl
theorem wd_157 : zWd zr_157 := fun _ => ⟨(tm6 (i := 119) rfl rfl), rfl, by decide, by decide⟩
theorem wi_157 : Cond.instanceMethod yX12_once ∈ bigW := (tm6 (i := 118) rfl rfl)
theorem ws_157 : Cond.selects yX12_once.cls yX12_once yX12_once ∈ bigW := tmS (i := 50) rfl rfl
theorem wd_158 : zWd zr_158 := fun _ => ⟨(tm6 (i := 127) rfl rfl), rfl, by decide, by decide⟩
theorem wi_158 : Cond.instanceMethod yX12_twice ∈ bigW := (tm6 (i := 126) rfl rfl)
theorem ws_158 : Cond.selects yX12_twice.cls yX12_twice yX12_twice ∈ bigW := tmS (i := 52) rfl rfl
theorem wd_159 : zWd zr_159 := fun _ => ⟨(tm6 (i := 115) rfl rfl), rfl, by decide, by decide⟩
theorem wi_159 : Cond.instanceMethod yX12_sum ∈ bigW := (tm6 (i := 114) rfl rfl)
theorem ws_159 : Cond.selects yX12_sum.cls yX12_sum yX12_sum ∈ bigW := tmS (i := 49) rfl rfl
theorem wd_160 : zWd zr_160 := fun _ => ⟨(tm6 (i := 123) rfl rfl), rfl, by decide, by decide⟩
theorem wi_160 : Cond.instanceMethod yX12_mixWith ∈ bigW := (tm6 (i := 122) rfl rfl)
theorem ws_160 : Cond.selects yX12_mixWith.cls yX12_mixWith yX12_mixWith ∈ bigW := tmS (i := 51) rfl rfl
theorem wd_161 : zWd zr_161 := fun _ => ⟨(tm6 (i := 95) rfl rfl), rfl, by decide, by decide⟩
theorem wi_161 : Cond.instanceMethod yX12_alone ∈ bigW := (tm6 (i := 94) rfl rfl)
theorem ws_161 : Cond.selects yX12_alone.cls yX12_alone yX12_alone ∈ bigW := tmS (i := 44) rfl rfl
theorem wd_162 : zWd zr_162 := fun _ => ⟨(tm6 (i := 87) rfl rfl), rfl, by decide, by decide⟩
theorem wi_162 : Cond.instanceMethod yX12_play ∈ bigW := (tm6 (i := 86) rfl rfl)
theorem ws_162 : Cond.selects yX12_play.cls yX12_play yX12_play ∈ bigW := tmS (i := 42) rfl rfl
theorem wd_163 : zWd zr_163 := fun _ => ⟨(tm6 (i := 159) rfl rfl), rfl, by decide, by decide⟩
theorem wi_163 : Cond.instanceMethod yX12_lay ∈ bigW := (tm6 (i := 158) rfl rfl)
theorem ws_163 : Cond.selects yX12_lay.cls yX12_lay yX12_lay ∈ bigW := tmS (i := 60) rfl rfl
theorem wd_164 : zWd zr_164 := fun _ => ⟨(tm6 (i := 147) rfl rfl), rfl, by decide, by decide⟩
theorem wi_164 : Cond.instanceMethod yX12_sizes ∈ bigW := (tm6 (i := 146) rfl rfl)
theorem ws_164 : Cond.selects yX12_sizes.cls yX12_sizes yX12_sizes ∈ bigW := tmS (i := 57) rfl rfl
theorem wd_165 : zWd zr_165 := fun _ => ⟨(tm6 (i := 151) rfl rfl), rfl, by decide, by decide⟩
theorem wi_165 : Cond.instanceMethod yX12_takeOut ∈ bigW := (tm6 (i := 150) rfl rfl)
theorem ws_165 : Cond.selects yX12_takeOut.cls yX12_takeOut yX12_takeOut ∈ bigW := tmS (i := 58) rfl rfl
theorem wd_166 : zWd zr_166 := fun _ => ⟨(tm6 (i := 143) rfl rfl), rfl, by decide, by decide⟩
theorem wi_166 : Cond.instanceMethod yX12_trim ∈ bigW := (tm6 (i := 142) rfl rfl)
theorem ws_166 : Cond.selects yX12_trim.cls yX12_trim yX12_trim ∈ bigW := tmS (i := 56) rfl rfl
theorem wd_167 : zWd zr_167 := fun _ => ⟨(tm6 (i := 83) rfl rfl), rfl, by decide, by decide⟩
theorem wi_167 : Cond.instanceMethod yX12_placeOf ∈ bigW := (tm6 (i := 82) rfl rfl)
theorem ws_167 : Cond.selects yX12_placeOf.cls yX12_placeOf yX12_placeOf ∈ bigW := tmS (i := 41) rfl rfl
theorem wd_168 : zWd zr_168 := fun _ => ⟨(tm6 (i := 139) rfl rfl), rfl, by decide, by decide⟩
theorem wi_168 : Cond.instanceMethod yX12_enter ∈ bigW := (tm6 (i := 138) rfl rfl)
theorem ws_168 : Cond.selects yX12_enter.cls yX12_enter yX12_enter ∈ bigW := tmS (i := 55) rfl rfl
theorem wd_169 : zWd zr_169 := fun _ => ⟨(tm6 (i := 155) rfl rfl), rfl, by decide, by decide⟩
theorem wi_169 : Cond.instanceMethod yX12_use ∈ bigW := (tm6 (i := 154) rfl rfl)
theorem ws_169 : Cond.selects yX12_use.cls yX12_use yX12_use ∈ bigW := tmS (i := 59) rfl rfl
theorem wd_170 : zWd zr_170 := fun _ => ⟨(tm6 (i := 67) rfl rfl), rfl, by decide, by decide⟩
theorem wi_170 : Cond.instanceMethod yX12_need ∈ bigW := (tm6 (i := 66) rfl rfl)
theorem ws_170 : Cond.selects yX12_need.cls yX12_need yX12_need ∈ bigW := tmS (i := 37) rfl rfl
theorem wd_171 : zWd zr_171 := fun _ => ⟨(tm6 (i := 71) rfl rfl), rfl, by decide, by decide⟩
theorem wi_171 : Cond.instanceMethod yX12_next ∈ bigW := (tm6 (i := 70) rfl rfl)
theorem ws_171 : Cond.selects yX12_next.cls yX12_next yX12_next ∈ bigW := tmS (i := 38) rfl rfl
theorem wd_172 : zWd zr_172 := fun _ => ⟨(tm6 (i := 75) rfl rfl), rfl, by decide, by decide⟩
theorem wi_172 : Cond.instanceMethod yX12_does ∈ bigW := (tm6 (i := 74) rfl rfl)
theorem ws_172 : Cond.selects yX12_does.cls yX12_does yX12_does ∈ bigW := tmS (i := 39) rfl rfl
theorem wd_173 : zWd zr_173 := fun _ => ⟨(tm6 (i := 63) rfl rfl), rfl, by decide, by decide⟩
theorem wi_173 : Cond.instanceMethod yX12_build ∈ bigW := (tm6 (i := 61) rfl rfl)
theorem ws_173 : Cond.selects yX12_build.cls yX12_build yX12_build ∈ bigW := (tm6 (i := 62) rfl rfl)
theorem wd_174 : zWd zr_174 := fun _ => ⟨(tm6 (i := 163) rfl rfl), rfl, by decide, by decide⟩
theorem wi_174 : Cond.instanceMethod yX12_done ∈ bigW := (tm6 (i := 161) rfl rfl)
theorem ws_174 : Cond.selects yX12_done.cls yX12_done yX12_done ∈ bigW := (tm6 (i := 162) rfl rfl)
theorem wd_175 : zWd zr_175 := fun _ => ⟨(tm6 (i := 167) rfl rfl), rfl, by decide, by decide⟩
theorem wi_175 : Cond.instanceMethod yX12_isClean ∈ bigW := (tm6 (i := 165) rfl rfl)
theorem ws_175 : Cond.selects yX12_isClean.cls yX12_isClean yX12_isClean ∈ bigW := (tm6 (i := 166) rfl rfl)
theorem wd_176 : zWd zr_176 := fun _ => ⟨(tm6 (i := 171) rfl rfl), rfl, by decide, by decide⟩
theorem wi_176 : Cond.instanceMethod yX12_capacity ∈ bigW := (tm6 (i := 169) rfl rfl)
theorem ws_176 : Cond.selects yX12_capacity.cls yX12_capacity yX12_capacity ∈ bigW := (tm6 (i := 170) rfl rfl)
theorem wd_177 : zWd zr_177 := fun _ => ⟨(tm6 (i := 175) rfl rfl), rfl, by decide, by decide⟩
theorem wi_177 : Cond.instanceMethod yX12_entry ∈ bigW := (tm6 (i := 173) rfl rfl)
theorem ws_177 : Cond.selects yX12_entry.cls yX12_entry yX12_entry ∈ bigW := (tm6 (i := 174) rfl rfl)
theorem wd_178 : zWd zr_178 := fun _ => ⟨(tm6 (i := 180) rfl rfl), rfl, by decide, by decide⟩
theorem wi_178 : Cond.instanceMethod yX12_forget ∈ bigW := (tm6 (i := 178) rfl rfl)
theorem ws_178 : Cond.selects yX12_forget.cls yX12_forget yX12_forget ∈ bigW := (tm6 (i := 179) rfl rfl)
theorem wd_179 : zWd zr_179 := fun _ => ⟨(tm6 (i := 184) rfl rfl), rfl, by decide, by decide⟩
theorem wi_179 : Cond.instanceMethod yX12_count ∈ bigW := (tm6 (i := 182) rfl rfl)
theorem ws_179 : Cond.selects yX12_count.cls yX12_count yX12_count ∈ bigW := (tm6 (i := 183) rfl rfl)
theorem wd_180 : zWd zr_180 := fun _ => ⟨(tm6 (i := 188) rfl rfl), rfl, by decide, by decide⟩
theorem wi_180 : Cond.instanceMethod yX12_clear ∈ bigW := (tm6 (i := 186) rfl rfl)
theorem ws_180 : Cond.selects yX12_clear.cls yX12_clear yX12_clear ∈ bigW := (tm6 (i := 187) rfl rfl)
theorem wd_181 : zWd zr_181 := fun _ => ⟨(tm3 (i := 147) rfl rfl), rfl, by decide, by decide⟩
theorem wi_181 : Cond.static yJ13_bitCount_95d88 ∈ bigW := (tm3 (i := 146) rfl rfl)
theorem wd_182 : zWd zr_182 := fun _ => ⟨(tm1 (i := 48) rfl rfl), rfl, by decide, by decide⟩
theorem wi_182 : Cond.instanceMethod yJxa1e45_init_da8c8 ∈ bigW := (tm1 (i := 47) rfl rfl)
theorem wd_183 : zWd zr_183 := fun _ => ⟨(tm1 (i := 45) rfl rfl), rfl, by decide, by decide⟩
theorem wi_183 : Cond.instanceMethod yJxc12de_init_da8c8 ∈ bigW := (tm1 (i := 44) rfl rfl)
theorem wd_184 : zWd zr_184 := fun _ => ⟨(tm1 (i := 42) rfl rfl), rfl, by decide, by decide⟩
theorem wi_184 : Cond.instanceMethod yJx4a65c_init_da8c8 ∈ bigW := (tm1 (i := 41) rfl rfl)
theorem wd_185 : zWd zr_185 := fun _ => ⟨(tm1 (i := 161) rfl rfl), rfl, by decide, by decide⟩
theorem wi_185 : Cond.instanceMethod yJx4a65c_grow_92f84 ∈ bigW := (tm1 (i := 160) rfl rfl)
theorem ws_185 : Cond.selects yJx4a65c_grow_92f84.cls yJx4a65c_grow_92f84 yJx4a65c_grow_92f84 ∈ bigW := tmS (i := 2) rfl rfl
theorem wd_186 : zWd zr_186 := fun _ => ⟨(tm1 (i := 157) rfl rfl), rfl, by decide, by decide⟩
theorem wi_186 : Cond.instanceMethod yJx4a65c_grow_d5877 ∈ bigW := (tm1 (i := 156) rfl rfl)
theorem ws_186 : Cond.selects yJx4a65c_grow_d5877.cls yJx4a65c_grow_d5877 yJx4a65c_grow_d5877 ∈ bigW := tmS (i := 1) rfl rfl
theorem wd_187 : zWd zr_187 := fun _ => ⟨(tm2 (i := 139) rfl rfl), rfl, by decide, by decide⟩
theorem wi_187 : Cond.instanceMethod yJx4a65c_size_8abf5 ∈ bigW := (tm2 (i := 137) rfl rfl)
theorem ws_187 : Cond.selects yJx4a65c_size_8abf5.cls yJx4a65c_size_8abf5 yJx4a65c_size_8abf5 ∈ bigW := (tm2 (i := 138) rfl rfl)
theorem wd_188 : zWd zr_188 := fun _ => ⟨(tm4 (i := 3) rfl rfl), rfl, by decide, by decide⟩
theorem wi_188 : Cond.instanceMethod yJx4a65c_isEmpty_aae02 ∈ bigW := (tm4 (i := 1) rfl rfl)
theorem ws_188 : Cond.selects yJx4a65c_isEmpty_aae02.cls yJx4a65c_isEmpty_aae02 yJx4a65c_isEmpty_aae02 ∈ bigW := (tm4 (i := 2) rfl rfl)
theorem wd_189 : zWd zr_189 := fun _ => ⟨(tm2 (i := 157) rfl rfl), rfl, by decide, by decide⟩
theorem wi_189 : Cond.instanceMethod yJx4a65c_elementData_915e3 ∈ bigW := (tm2 (i := 155) rfl rfl)
theorem ws_189 : Cond.selects yJx4a65c_elementData_915e3.cls yJx4a65c_elementData_915e3 yJx4a65c_elementData_915e3 ∈ bigW := (tm2 (i := 156) rfl rfl)
theorem wd_190 : zWd zr_190 := fun _ => ⟨(tm2 (i := 147) rfl rfl), rfl, by decide, by decide⟩
theorem wi_190 : Cond.instanceMethod yJx4a65c_get_915e3 ∈ bigW := (tm2 (i := 145) rfl rfl)
theorem ws_190 : Cond.selects yJx4a65c_get_915e3.cls yJx4a65c_get_915e3 yJx4a65c_get_915e3 ∈ bigW := (tm2 (i := 146) rfl rfl)
theorem wd_191 : zWd zr_191 := fun _ => ⟨(tm1 (i := 153) rfl rfl), rfl, by decide, by decide⟩
theorem wi_191 : Cond.instanceMethod yJx4a65c_add_72be8 ∈ bigW := (tm1 (i := 152) rfl rfl)
theorem ws_191 : Cond.selects yJx4a65c_add_72be8.cls yJx4a65c_add_72be8 yJx4a65c_add_72be8 ∈ bigW := tmS (i := 0) rfl rfl
theorem wd_192 : zWd zr_192 := fun _ => ⟨(tm1 (i := 149) rfl rfl), rfl, by decide, by decide⟩
theorem wi_192 : Cond.instanceMethod yJx4a65c_add_9ea2d ∈ bigW := (tm1 (i := 147) rfl rfl)
theorem ws_192 : Cond.selects yJx4a65c_add_9ea2d.cls yJx4a65c_add_9ea2d yJx4a65c_add_9ea2d ∈ bigW := (tm1 (i := 148) rfl rfl)
theorem wd_193 : zWd zr_193 := fun _ => ⟨(tm2 (i := 181) rfl rfl), rfl, by decide, by decide⟩
theorem wi_193 : Cond.instanceMethod yJx4a65c_add_7a177 ∈ bigW := (tm2 (i := 179) rfl rfl)
theorem ws_193 : Cond.selects yJx4a65c_add_7a177.cls yJx4a65c_add_7a177 yJx4a65c_add_7a177 ∈ bigW := (tm2 (i := 180) rfl rfl)
theorem wd_194 : zWd zr_194 := fun _ => ⟨(tm4 (i := 36) rfl rfl), rfl, by decide, by decide⟩
theorem wi_194 : Cond.instanceMethod yJx4a65c_remove_915e3 ∈ bigW := (tm4 (i := 34) rfl rfl)
theorem ws_194 : Cond.selects yJx4a65c_remove_915e3.cls yJx4a65c_remove_915e3 yJx4a65c_remove_915e3 ∈ bigW := (tm4 (i := 35) rfl rfl)
theorem wd_195 : zWd zr_195 := fun _ => ⟨(tm4 (i := 40) rfl rfl), rfl, by decide, by decide⟩
theorem wi_195 : Cond.instanceMethod yJx4a65c_fastRemove_b59b0 ∈ bigW := (tm4 (i := 39) rfl rfl)
theorem ws_195 : Cond.selects yJx4a65c_fastRemove_b59b0.cls yJx4a65c_fastRemove_b59b0 yJx4a65c_fastRemove_b59b0 ∈ bigW := tmS (i := 12) rfl rfl
theorem wd_196 : zWd zr_196 := fun _ => ⟨(tm1 (i := 71) rfl rfl), rfl, by decide, by decide⟩
theorem wi_196 : Cond.instanceMethod yJx4a65c_clear_da8c8 ∈ bigW := (tm1 (i := 69) rfl rfl)
theorem ws_196 : Cond.selects yJx4a65c_clear_da8c8.cls yJx4a65c_clear_da8c8 yJx4a65c_clear_da8c8 ∈ bigW := (tm1 (i := 70) rfl rfl)
theorem wd_197 : zWd zr_197 := fun _ => ⟨(tm2 (i := 185) rfl rfl), rfl, by decide, by decide⟩
theorem wi_197 : Cond.instanceMethod yJx4a65c_rangeCheckForAdd_d00df ∈ bigW := (tm2 (i := 184) rfl rfl)
theorem ws_197 : Cond.selects yJx4a65c_rangeCheckForAdd_d00df.cls yJx4a65c_rangeCheckForAdd_d00df yJx4a65c_rangeCheckForAdd_d00df ∈ bigW := tmS (i := 3) rfl rfl
theorem wd_198 : zWd zr_198 := fun _ => ⟨(tm1 (i := 174) rfl rfl), rfl, by decide, by decide⟩
theorem wi_198 : Cond.static yJ7_copyOf_1904c ∈ bigW := (tm1 (i := 173) rfl rfl)
theorem wd_199 : zWd zr_199 := fun _ => ⟨(tm1 (i := 195) rfl rfl), rfl, by decide, by decide⟩
theorem wi_199 : Cond.static yJ7_copyOf_6403c ∈ bigW := (tm1 (i := 194) rfl rfl)
theorem wd_200 : zWd zr_200 := fun _ => ⟨(tm2 (i := 150) rfl rfl), rfl, by decide, by decide⟩
theorem wi_200 : Cond.static yJ15_checkIndex_7cf53 ∈ bigW := (tm2 (i := 149) rfl rfl)
theorem wd_201 : zWd zr_201 := fun _ => ⟨(tm1 (i := 164) rfl rfl), rfl, by decide, by decide⟩
theorem wi_201 : Cond.static yJ8_newLength_cabcc ∈ bigW := (tm1 (i := 163) rfl rfl)
theorem wd_202 : zWd zr_202 := fun _ => ⟨(tm1 (i := 171) rfl rfl), rfl, by decide, by decide⟩
theorem wi_202 : Cond.static yJ8_hugeLength_7cf53 ∈ bigW := (tm1 (i := 170) rfl rfl)
theorem wd_203 : zWd zr_203 := fun _ => ⟨(tm2 (i := 153) rfl rfl), rfl, by decide, by decide⟩
theorem wi_203 : Cond.static yJ3_checkIndex_8e157 ∈ bigW := (tm2 (i := 152) rfl rfl)
theorem wd_204 : zWd zr_204 := fun h => absurd rfl h
theorem wdg_0 : ∀ t ∈ zTg_0, zWd t := List.forall_mem_cons.mpr ⟨wd_0, List.forall_mem_cons.mpr ⟨wd_1, List.forall_mem_cons.mpr ⟨wd_2, List.forall_mem_cons.mpr ⟨wd_3, List.forall_mem_cons.mpr ⟨wd_4, List.forall_mem_cons.mpr ⟨wd_5, List.forall_mem_cons.mpr ⟨wd_6, List.forall_mem_cons.mpr ⟨wd_7, List.forall_mem_cons.mpr ⟨wd_8, List.forall_mem_cons.mpr ⟨wd_9, List.forall_mem_cons.mpr ⟨wd_10, List.forall_mem_cons.mpr ⟨wd_11, List.forall_mem_cons.mpr ⟨wd_12, List.forall_mem_cons.mpr ⟨wd_13, List.forall_mem_cons.mpr ⟨wd_14, List.forall_mem_cons.mpr ⟨wd_15, List.forall_mem_cons.mpr ⟨wd_16, List.forall_mem_cons.mpr ⟨wd_17, List.forall_mem_cons.mpr ⟨wd_18, List.forall_mem_cons.mpr ⟨wd_19, fun _ h => absurd h List.not_mem_nil⟩⟩⟩⟩⟩⟩⟩⟩⟩⟩⟩⟩⟩⟩⟩⟩⟩⟩⟩⟩
theorem wdg_1 : ∀ t ∈ zTg_1, zWd t := List.forall_mem_cons.mpr ⟨wd_20, List.forall_mem_cons.mpr ⟨wd_21, List.forall_mem_cons.mpr ⟨wd_22, List.forall_mem_cons.mpr ⟨wd_23, List.forall_mem_cons.mpr ⟨wd_24, List.forall_mem_cons.mpr ⟨wd_25, List.forall_mem_cons.mpr ⟨wd_26, List.forall_mem_cons.mpr ⟨wd_27, List.forall_mem_cons.mpr ⟨wd_28, List.forall_mem_cons.mpr ⟨wd_29, List.forall_mem_cons.mpr ⟨wd_30, List.forall_mem_cons.mpr ⟨wd_31, List.forall_mem_cons.mpr ⟨wd_32, List.forall_mem_cons.mpr ⟨wd_33, List.forall_mem_cons.mpr ⟨wd_34, List.forall_mem_cons.mpr ⟨wd_35, List.forall_mem_cons.mpr ⟨wd_36, List.forall_mem_cons.mpr ⟨wd_37, List.forall_mem_cons.mpr ⟨wd_38, List.forall_mem_cons.mpr ⟨wd_39, fun _ h => absurd h List.not_mem_nil⟩⟩⟩⟩⟩⟩⟩⟩⟩⟩⟩⟩⟩⟩⟩⟩⟩⟩⟩⟩
theorem wdg_2 : ∀ t ∈ zTg_2, zWd t := List.forall_mem_cons.mpr ⟨wd_40, List.forall_mem_cons.mpr ⟨wd_41, List.forall_mem_cons.mpr ⟨wd_42, List.forall_mem_cons.mpr ⟨wd_43, List.forall_mem_cons.mpr ⟨wd_44, List.forall_mem_cons.mpr ⟨wd_45, List.forall_mem_cons.mpr ⟨wd_46, List.forall_mem_cons.mpr ⟨wd_47, List.forall_mem_cons.mpr ⟨wd_48, List.forall_mem_cons.mpr ⟨wd_49, List.forall_mem_cons.mpr ⟨wd_50, List.forall_mem_cons.mpr ⟨wd_51, List.forall_mem_cons.mpr ⟨wd_52, List.forall_mem_cons.mpr ⟨wd_53, List.forall_mem_cons.mpr ⟨wd_54, List.forall_mem_cons.mpr ⟨wd_55, List.forall_mem_cons.mpr ⟨wd_56, List.forall_mem_cons.mpr ⟨wd_57, List.forall_mem_cons.mpr ⟨wd_58, List.forall_mem_cons.mpr ⟨wd_59, fun _ h => absurd h List.not_mem_nil⟩⟩⟩⟩⟩⟩⟩⟩⟩⟩⟩⟩⟩⟩⟩⟩⟩⟩⟩⟩
theorem wdg_3 : ∀ t ∈ zTg_3, zWd t := List.forall_mem_cons.mpr ⟨wd_60, List.forall_mem_cons.mpr ⟨wd_61, List.forall_mem_cons.mpr ⟨wd_62, List.forall_mem_cons.mpr ⟨wd_63, List.forall_mem_cons.mpr ⟨wd_64, List.forall_mem_cons.mpr ⟨wd_65, List.forall_mem_cons.mpr ⟨wd_66, List.forall_mem_cons.mpr ⟨wd_67, List.forall_mem_cons.mpr ⟨wd_68, List.forall_mem_cons.mpr ⟨wd_69, List.forall_mem_cons.mpr ⟨wd_70, List.forall_mem_cons.mpr ⟨wd_71, List.forall_mem_cons.mpr ⟨wd_72, List.forall_mem_cons.mpr ⟨wd_73, List.forall_mem_cons.mpr ⟨wd_74, List.forall_mem_cons.mpr ⟨wd_75, List.forall_mem_cons.mpr ⟨wd_76, List.forall_mem_cons.mpr ⟨wd_77, List.forall_mem_cons.mpr ⟨wd_78, List.forall_mem_cons.mpr ⟨wd_79, fun _ h => absurd h List.not_mem_nil⟩⟩⟩⟩⟩⟩⟩⟩⟩⟩⟩⟩⟩⟩⟩⟩⟩⟩⟩⟩
theorem wdg_4 : ∀ t ∈ zTg_4, zWd t := List.forall_mem_cons.mpr ⟨wd_80, List.forall_mem_cons.mpr ⟨wd_81, List.forall_mem_cons.mpr ⟨wd_82, List.forall_mem_cons.mpr ⟨wd_83, List.forall_mem_cons.mpr ⟨wd_84, List.forall_mem_cons.mpr ⟨wd_85, List.forall_mem_cons.mpr ⟨wd_86, List.forall_mem_cons.mpr ⟨wd_87, List.forall_mem_cons.mpr ⟨wd_88, List.forall_mem_cons.mpr ⟨wd_89, List.forall_mem_cons.mpr ⟨wd_90, List.forall_mem_cons.mpr ⟨wd_91, List.forall_mem_cons.mpr ⟨wd_92, List.forall_mem_cons.mpr ⟨wd_93, List.forall_mem_cons.mpr ⟨wd_94, List.forall_mem_cons.mpr ⟨wd_95, List.forall_mem_cons.mpr ⟨wd_96, List.forall_mem_cons.mpr ⟨wd_97, List.forall_mem_cons.mpr ⟨wd_98, List.forall_mem_cons.mpr ⟨wd_99, fun _ h => absurd h List.not_mem_nil⟩⟩⟩⟩⟩⟩⟩⟩⟩⟩⟩⟩⟩⟩⟩⟩⟩⟩⟩⟩
theorem wdg_5 : ∀ t ∈ zTg_5, zWd t := List.forall_mem_cons.mpr ⟨wd_100, List.forall_mem_cons.mpr ⟨wd_101, List.forall_mem_cons.mpr ⟨wd_102, List.forall_mem_cons.mpr ⟨wd_103, List.forall_mem_cons.mpr ⟨wd_104, List.forall_mem_cons.mpr ⟨wd_105, List.forall_mem_cons.mpr ⟨wd_106, List.forall_mem_cons.mpr ⟨wd_107, List.forall_mem_cons.mpr ⟨wd_108, List.forall_mem_cons.mpr ⟨wd_109, List.forall_mem_cons.mpr ⟨wd_110, List.forall_mem_cons.mpr ⟨wd_111, List.forall_mem_cons.mpr ⟨wd_112, List.forall_mem_cons.mpr ⟨wd_113, List.forall_mem_cons.mpr ⟨wd_114, List.forall_mem_cons.mpr ⟨wd_115, List.forall_mem_cons.mpr ⟨wd_116, List.forall_mem_cons.mpr ⟨wd_117, List.forall_mem_cons.mpr ⟨wd_118, List.forall_mem_cons.mpr ⟨wd_119, fun _ h => absurd h List.not_mem_nil⟩⟩⟩⟩⟩⟩⟩⟩⟩⟩⟩⟩⟩⟩⟩⟩⟩⟩⟩⟩
theorem wdg_6 : ∀ t ∈ zTg_6, zWd t := List.forall_mem_cons.mpr ⟨wd_120, List.forall_mem_cons.mpr ⟨wd_121, List.forall_mem_cons.mpr ⟨wd_122, List.forall_mem_cons.mpr ⟨wd_123, List.forall_mem_cons.mpr ⟨wd_124, List.forall_mem_cons.mpr ⟨wd_125, List.forall_mem_cons.mpr ⟨wd_126, List.forall_mem_cons.mpr ⟨wd_127, List.forall_mem_cons.mpr ⟨wd_128, List.forall_mem_cons.mpr ⟨wd_129, List.forall_mem_cons.mpr ⟨wd_130, List.forall_mem_cons.mpr ⟨wd_131, List.forall_mem_cons.mpr ⟨wd_132, List.forall_mem_cons.mpr ⟨wd_133, List.forall_mem_cons.mpr ⟨wd_134, List.forall_mem_cons.mpr ⟨wd_135, List.forall_mem_cons.mpr ⟨wd_136, List.forall_mem_cons.mpr ⟨wd_137, List.forall_mem_cons.mpr ⟨wd_138, List.forall_mem_cons.mpr ⟨wd_139, fun _ h => absurd h List.not_mem_nil⟩⟩⟩⟩⟩⟩⟩⟩⟩⟩⟩⟩⟩⟩⟩⟩⟩⟩⟩⟩
theorem wdg_7 : ∀ t ∈ zTg_7, zWd t := List.forall_mem_cons.mpr ⟨wd_140, List.forall_mem_cons.mpr ⟨wd_141, List.forall_mem_cons.mpr ⟨wd_142, List.forall_mem_cons.mpr ⟨wd_143, List.forall_mem_cons.mpr ⟨wd_144, List.forall_mem_cons.mpr ⟨wd_145, List.forall_mem_cons.mpr ⟨wd_146, List.forall_mem_cons.mpr ⟨wd_147, List.forall_mem_cons.mpr ⟨wd_148, List.forall_mem_cons.mpr ⟨wd_149, List.forall_mem_cons.mpr ⟨wd_150, List.forall_mem_cons.mpr ⟨wd_151, List.forall_mem_cons.mpr ⟨wd_152, List.forall_mem_cons.mpr ⟨wd_153, List.forall_mem_cons.mpr ⟨wd_154, List.forall_mem_cons.mpr ⟨wd_155, List.forall_mem_cons.mpr ⟨wd_156, List.forall_mem_cons.mpr ⟨wd_157, List.forall_mem_cons.mpr ⟨wd_158, List.forall_mem_cons.mpr ⟨wd_159, fun _ h => absurd h List.not_mem_nil⟩⟩⟩⟩⟩⟩⟩⟩⟩⟩⟩⟩⟩⟩⟩⟩⟩⟩⟩⟩
theorem wdg_8 : ∀ t ∈ zTg_8, zWd t := List.forall_mem_cons.mpr ⟨wd_160, List.forall_mem_cons.mpr ⟨wd_161, List.forall_mem_cons.mpr ⟨wd_162, List.forall_mem_cons.mpr ⟨wd_163, List.forall_mem_cons.mpr ⟨wd_164, List.forall_mem_cons.mpr ⟨wd_165, List.forall_mem_cons.mpr ⟨wd_166, List.forall_mem_cons.mpr ⟨wd_167, List.forall_mem_cons.mpr ⟨wd_168, List.forall_mem_cons.mpr ⟨wd_169, List.forall_mem_cons.mpr ⟨wd_170, List.forall_mem_cons.mpr ⟨wd_171, List.forall_mem_cons.mpr ⟨wd_172, List.forall_mem_cons.mpr ⟨wd_173, List.forall_mem_cons.mpr ⟨wd_174, List.forall_mem_cons.mpr ⟨wd_175, List.forall_mem_cons.mpr ⟨wd_176, List.forall_mem_cons.mpr ⟨wd_177, List.forall_mem_cons.mpr ⟨wd_178, List.forall_mem_cons.mpr ⟨wd_179, fun _ h => absurd h List.not_mem_nil⟩⟩⟩⟩⟩⟩⟩⟩⟩⟩⟩⟩⟩⟩⟩⟩⟩⟩⟩⟩
theorem wdg_9 : ∀ t ∈ zTg_9, zWd t := List.forall_mem_cons.mpr ⟨wd_180, List.forall_mem_cons.mpr ⟨wd_181, List.forall_mem_cons.mpr ⟨wd_182, List.forall_mem_cons.mpr ⟨wd_183, List.forall_mem_cons.mpr ⟨wd_184, List.forall_mem_cons.mpr ⟨wd_185, List.forall_mem_cons.mpr ⟨wd_186, List.forall_mem_cons.mpr ⟨wd_187, List.forall_mem_cons.mpr ⟨wd_188, List.forall_mem_cons.mpr ⟨wd_189, List.forall_mem_cons.mpr ⟨wd_190, List.forall_mem_cons.mpr ⟨wd_191, List.forall_mem_cons.mpr ⟨wd_192, List.forall_mem_cons.mpr ⟨wd_193, List.forall_mem_cons.mpr ⟨wd_194, List.forall_mem_cons.mpr ⟨wd_195, List.forall_mem_cons.mpr ⟨wd_196, List.forall_mem_cons.mpr ⟨wd_197, List.forall_mem_cons.mpr ⟨wd_198, List.forall_mem_cons.mpr ⟨wd_199, fun _ h => absurd h List.not_mem_nil⟩⟩⟩⟩⟩⟩⟩⟩⟩⟩⟩⟩⟩⟩⟩⟩⟩⟩⟩⟩
theorem wdg_10 : ∀ t ∈ zTg_10, zWd t := List.forall_mem_cons.mpr ⟨wd_200, List.forall_mem_cons.mpr ⟨wd_201, List.forall_mem_cons.mpr ⟨wd_202, List.forall_mem_cons.mpr ⟨wd_203, List.forall_mem_cons.mpr ⟨wd_204, fun _ h => absurd h List.not_mem_nil⟩⟩⟩⟩⟩
theorem zT_wd : ∀ t ∈ zT, zWd t := List.forall_mem_append.mpr ⟨wdg_0, List.forall_mem_append.mpr ⟨wdg_1, List.forall_mem_append.mpr ⟨wdg_2, List.forall_mem_append.mpr ⟨wdg_3, List.forall_mem_append.mpr ⟨wdg_4, List.forall_mem_append.mpr ⟨wdg_5, List.forall_mem_append.mpr ⟨wdg_6, List.forall_mem_append.mpr ⟨wdg_7, List.forall_mem_append.mpr ⟨wdg_8, List.forall_mem_append.mpr ⟨wdg_9, wdg_10⟩⟩⟩⟩⟩⟩⟩⟩⟩⟩
theorem zT_len : zT.length = 205 := by decide +kernel
theorem law_at : ∀ m, m < 204 → mC m ≠ 24 := by decide +kernel
theorem mW {m : Nat} (h : m < 204) : Cond.code (mY m) (mB m) (mL m) (mR m) ∈ bigW ∧ (mY m).cls = cNm (mC m) ∧ mC m < 23 ∧ mC m ≠ 21 := by
  have hm : mE m ∈ zT := by
    unfold mE
    rw [List.getD_eq_getElem?_getD]
    have hl : m < zT.length := by rw [zT_len]; omega
    rw [List.getElem?_eq_getElem hl]
    exact List.getElem_mem hl
  exact zT_wd _ hm (law_at m h)
end
section
/-- a field's link: its word; its class and place; by which class it is spelt -/
def pfOk (q : Nat × Nat × Nat × Nat × Nat) : Prop := .fieldLink (cNm q.1) q.2.1 (cNm q.2.2.2.2) ((cRow q.2.2.1).2.1 q.2.2.2.1).2.1 ((cRow q.2.2.1).2.1 q.2.2.2.1).2.2.1 ∈ bigW ∧ q.2.2.1 < 14 ∧ q.2.2.2.1 < (cRow q.2.2.1).2.2 ∧ (cNm q.2.2.2.2 = ((cRow q.2.2.1).2.1 q.2.2.2.1).1 ∨ .sameField (cNm q.2.2.2.2) ((cRow q.2.2.1).2.1 q.2.2.2.1).1 ((cRow q.2.2.1).2.1 q.2.2.2.1).2.1 ((cRow q.2.2.1).2.1 q.2.2.2.1).2.2.1 ∈ bigW)
theorem pfi_0 : pfOk (0, 12, 0, 0, 0) := ⟨(tm3 (i := 27) rfl rfl), by decide, by decide, Or.inl rfl⟩
theorem pfi_1 : pfOk (0, 18, 0, 1, 0) := ⟨(tm3 (i := 32) rfl rfl), by decide, by decide, Or.inl rfl⟩
theorem pfi_2 : pfOk (0, 21, 0, 2, 0) := ⟨(tm3 (i := 36) rfl rfl), by decide, by decide, Or.inl rfl⟩
theorem pfi_3 : pfOk (0, 25, 0, 3, 0) := ⟨(tm3 (i := 39) rfl rfl), by decide, by decide, Or.inl rfl⟩
theorem pfi_4 : pfOk (0, 30, 0, 4, 0) := ⟨(tm3 (i := 42) rfl rfl), by decide, by decide, Or.inl rfl⟩
theorem pfi_5 : pfOk (0, 34, 0, 5, 0) := ⟨(tm3 (i := 44) rfl rfl), by decide, by decide, Or.inl rfl⟩
theorem pfi_6 : pfOk (0, 38, 0, 6, 0) := ⟨(tm3 (i := 48) rfl rfl), by decide, by decide, Or.inl rfl⟩
theorem pfi_7 : pfOk (0, 53, 8, 0, 8) := ⟨(tm1 (i := 103) rfl rfl), by decide, by decide, Or.inl rfl⟩
theorem pfi_8 : pfOk (0, 63, 8, 4, 8) := ⟨(tm1 (i := 122) rfl rfl), by decide, by decide, Or.inl rfl⟩
theorem pfi_9 : pfOk (0, 67, 7, 0, 7) := ⟨(tm2 (i := 89) rfl rfl), by decide, by decide, Or.inl rfl⟩
theorem pfi_10 : pfOk (1, 12, 1, 0, 1) := ⟨(tm1 (i := 234) rfl rfl), by decide, by decide, Or.inl rfl⟩
theorem pfi_11 : pfOk (1, 18, 1, 1, 1) := ⟨(tm1 (i := 236) rfl rfl), by decide, by decide, Or.inl rfl⟩
theorem pfi_12 : pfOk (1, 21, 1, 2, 1) := ⟨(tm1 (i := 237) rfl rfl), by decide, by decide, Or.inl rfl⟩
theorem pfi_13 : pfOk (1, 25, 1, 3, 1) := ⟨(tm1 (i := 239) rfl rfl), by decide, by decide, Or.inl rfl⟩
theorem pfi_14 : pfOk (1, 28, 1, 4, 1) := ⟨(tm2 (i := 1) rfl rfl), by decide, by decide, Or.inl rfl⟩
theorem pfi_15 : pfOk (1, 50, 3, 2, 3) := ⟨(tm4 (i := 19) rfl rfl), by decide, by decide, Or.inl rfl⟩
theorem pfi_16 : pfOk (1, 53, 3, 0, 3) := ⟨(tm4 (i := 14) rfl rfl), by decide, by decide, Or.inl rfl⟩
theorem pfi_17 : pfOk (1, 68, 3, 3, 3) := ⟨(tm4 (i := 22) rfl rfl), by decide, by decide, Or.inl rfl⟩
theorem pfi_18 : pfOk (1, 80, 3, 1, 3) := ⟨(tm4 (i := 16) rfl rfl), by decide, by decide, Or.inl rfl⟩
theorem pfi_19 : pfOk (2, 9, 2, 0, 2) := ⟨(tm1 (i := 87) rfl rfl), by decide, by decide, Or.inl rfl⟩
theorem pfi_20 : pfOk (2, 15, 2, 1, 2) := ⟨(tm1 (i := 90) rfl rfl), by decide, by decide, Or.inl rfl⟩
theorem pfi_21 : pfOk (3, 10, 3, 0, 3) := ⟨(tm4 (i := 13) rfl rfl), by decide, by decide, Or.inl rfl⟩
theorem pfi_22 : pfOk (3, 19, 3, 1, 3) := ⟨(tm4 (i := 15) rfl rfl), by decide, by decide, Or.inl rfl⟩
theorem pfi_23 : pfOk (3, 23, 3, 2, 3) := ⟨(tm4 (i := 18) rfl rfl), by decide, by decide, Or.inl rfl⟩
theorem pfi_24 : pfOk (3, 27, 3, 3, 3) := ⟨(tm4 (i := 21) rfl rfl), by decide, by decide, Or.inl rfl⟩
theorem pfi_25 : pfOk (4, 12, 4, 0, 4) := ⟨(tm1 (i := 221) rfl rfl), by decide, by decide, Or.inl rfl⟩
theorem pfi_26 : pfOk (4, 33, 0, 6, 0) := ⟨(tm3 (i := 49) rfl rfl), by decide, by decide, Or.inl rfl⟩
theorem pfi_27 : pfOk (4, 37, 0, 0, 0) := ⟨(tm3 (i := 30) rfl rfl), by decide, by decide, Or.inl rfl⟩
theorem pfi_28 : pfOk (4, 54, 8, 0, 8) := ⟨(tm1 (i := 105) rfl rfl), by decide, by decide, Or.inl rfl⟩
theorem pfi_29 : pfOk (4, 62, 8, 1, 8) := ⟨(tm1 (i := 109) rfl rfl), by decide, by decide, Or.inl rfl⟩
theorem pfi_30 : pfOk (5, 9, 5, 0, 5) := ⟨(tm2 (i := 64) rfl rfl), by decide, by decide, Or.inl rfl⟩
theorem pfi_31 : pfOk (5, 15, 5, 1, 5) := ⟨(tm2 (i := 65) rfl rfl), by decide, by decide, Or.inl rfl⟩
theorem pfi_32 : pfOk (5, 18, 5, 2, 5) := ⟨(tm2 (i := 66) rfl rfl), by decide, by decide, Or.inl rfl⟩
theorem pfi_33 : pfOk (5, 22, 5, 3, 5) := ⟨(tm2 (i := 67) rfl rfl), by decide, by decide, Or.inl rfl⟩
theorem pfi_34 : pfOk (5, 25, 5, 4, 5) := ⟨(tm2 (i := 68) rfl rfl), by decide, by decide, Or.inl rfl⟩
theorem pfi_35 : pfOk (5, 28, 0, 1, 0) := ⟨(tm3 (i := 34) rfl rfl), by decide, by decide, Or.inl rfl⟩
theorem pfi_36 : pfOk (5, 43, 0, 5, 0) := ⟨(tm3 (i := 45) rfl rfl), by decide, by decide, Or.inl rfl⟩
theorem pfi_37 : pfOk (5, 46, 0, 2, 0) := ⟨(tm3 (i := 37) rfl rfl), by decide, by decide, Or.inl rfl⟩
theorem pfi_38 : pfOk (5, 47, 0, 3, 0) := ⟨(tm3 (i := 40) rfl rfl), by decide, by decide, Or.inl rfl⟩
theorem pfi_39 : pfOk (5, 50, 0, 0, 0) := ⟨(tm3 (i := 28) rfl rfl), by decide, by decide, Or.inl rfl⟩
theorem pfi_40 : pfOk (5, 63, 8, 3, 8) := ⟨(tm1 (i := 117) rfl rfl), by decide, by decide, Or.inl rfl⟩
theorem pfi_41 : pfOk (5, 70, 8, 4, 8) := ⟨(tm1 (i := 120) rfl rfl), by decide, by decide, Or.inl rfl⟩
theorem pfi_42 : pfOk (5, 82, 8, 5, 8) := ⟨(tm1 (i := 126) rfl rfl), by decide, by decide, Or.inl rfl⟩
theorem pfi_43 : pfOk (5, 91, 8, 2, 8) := ⟨(tm1 (i := 112) rfl rfl), by decide, by decide, Or.inl rfl⟩
theorem pfi_44 : pfOk (5, 94, 2, 1, 2) := ⟨(tm1 (i := 95) rfl rfl), by decide, by decide, Or.inl rfl⟩
theorem pfi_45 : pfOk (5, 95, 2, 0, 2) := ⟨(tm1 (i := 88) rfl rfl), by decide, by decide, Or.inl rfl⟩
theorem pfi_46 : pfOk (6, 13, 6, 0, 6) := ⟨(tm2 (i := 37) rfl rfl), by decide, by decide, Or.inl rfl⟩
theorem pfi_47 : pfOk (6, 16, 6, 1, 6) := ⟨(tm2 (i := 39) rfl rfl), by decide, by decide, Or.inl rfl⟩
theorem pfi_48 : pfOk (6, 20, 6, 2, 6) := ⟨(tm2 (i := 41) rfl rfl), by decide, by decide, Or.inl rfl⟩
theorem pfi_49 : pfOk (6, 23, 6, 3, 6) := ⟨(tm2 (i := 43) rfl rfl), by decide, by decide, Or.inl rfl⟩
theorem pfi_50 : pfOk (6, 26, 6, 4, 6) := ⟨(tm2 (i := 45) rfl rfl), by decide, by decide, Or.inl rfl⟩
theorem pfi_51 : pfOk (7, 11, 7, 0, 7) := ⟨(tm2 (i := 88) rfl rfl), by decide, by decide, Or.inl rfl⟩
theorem pfi_52 : pfOk (7, 17, 7, 1, 7) := ⟨(tm2 (i := 91) rfl rfl), by decide, by decide, Or.inl rfl⟩
theorem pfi_53 : pfOk (7, 21, 7, 2, 7) := ⟨(tm2 (i := 94) rfl rfl), by decide, by decide, Or.inl rfl⟩
theorem pfi_54 : pfOk (7, 35, 2, 1, 2) := ⟨(tm1 (i := 94) rfl rfl), by decide, by decide, Or.inl rfl⟩
theorem pfi_55 : pfOk (8, 11, 8, 4, 8) := ⟨(tm1 (i := 119) rfl rfl), by decide, by decide, Or.inl rfl⟩
theorem pfi_56 : pfOk (8, 20, 8, 5, 8) := ⟨(tm1 (i := 125) rfl rfl), by decide, by decide, Or.inl rfl⟩
theorem pfi_57 : pfOk (8, 24, 8, 6, 8) := ⟨(tm1 (i := 128) rfl rfl), by decide, by decide, Or.inl rfl⟩
theorem pfi_58 : pfOk (8, 28, 8, 0, 8) := ⟨(tm1 (i := 102) rfl rfl), by decide, by decide, Or.inl rfl⟩
theorem pfi_59 : pfOk (8, 31, 8, 1, 8) := ⟨(tm1 (i := 106) rfl rfl), by decide, by decide, Or.inl rfl⟩
theorem pfi_60 : pfOk (8, 34, 8, 2, 8) := ⟨(tm1 (i := 110) rfl rfl), by decide, by decide, Or.inl rfl⟩
theorem pfi_61 : pfOk (8, 37, 8, 3, 8) := ⟨(tm1 (i := 115) rfl rfl), by decide, by decide, Or.inl rfl⟩
theorem pfi_62 : pfOk (8, 54, 2, 1, 2) := ⟨(tm1 (i := 93) rfl rfl), by decide, by decide, Or.inl rfl⟩
theorem pfi_63 : pfOk (9, 12, 9, 0, 9) := ⟨(tm2 (i := 22) rfl rfl), by decide, by decide, Or.inl rfl⟩
theorem pfi_64 : pfOk (9, 18, 9, 1, 9) := ⟨(tm2 (i := 23) rfl rfl), by decide, by decide, Or.inl rfl⟩
theorem pfi_65 : pfOk (9, 22, 0, 1, 0) := ⟨(tm3 (i := 33) rfl rfl), by decide, by decide, Or.inl rfl⟩
theorem pfi_66 : pfOk (9, 40, 2, 1, 2) := ⟨(tm1 (i := 92) rfl rfl), by decide, by decide, Or.inl rfl⟩
theorem pfi_67 : pfOk (9, 43, 0, 5, 0) := ⟨(tm3 (i := 46) rfl rfl), by decide, by decide, Or.inl rfl⟩
theorem pfi_68 : pfOk (9, 53, 0, 3, 0) := ⟨(tm3 (i := 41) rfl rfl), by decide, by decide, Or.inl rfl⟩
theorem pfi_69 : pfOk (9, 57, 0, 2, 0) := ⟨(tm3 (i := 38) rfl rfl), by decide, by decide, Or.inl rfl⟩
theorem pfi_70 : pfOk (9, 107, 0, 0, 0) := ⟨(tm3 (i := 29) rfl rfl), by decide, by decide, Or.inl rfl⟩
theorem pfi_71 : pfOk (9, 116, 8, 3, 8) := ⟨(tm1 (i := 118) rfl rfl), by decide, by decide, Or.inl rfl⟩
theorem pfi_72 : pfOk (9, 119, 8, 4, 8) := ⟨(tm1 (i := 123) rfl rfl), by decide, by decide, Or.inl rfl⟩
theorem pfi_73 : pfOk (9, 127, 8, 5, 8) := ⟨(tm1 (i := 127) rfl rfl), by decide, by decide, Or.inl rfl⟩
theorem pfi_74 : pfOk (9, 130, 8, 2, 8) := ⟨(tm1 (i := 114) rfl rfl), by decide, by decide, Or.inl rfl⟩
theorem pfi_75 : pfOk (9, 133, 7, 1, 7) := ⟨(tm2 (i := 92) rfl rfl), by decide, by decide, Or.inl rfl⟩
theorem pfi_76 : pfOk (9, 135, 7, 0, 7) := ⟨(tm2 (i := 90) rfl rfl), by decide, by decide, Or.inl rfl⟩
theorem pfi_77 : pfOk (10, 12, 10, 0, 10) := ⟨(tm1 (i := 207) rfl rfl), by decide, by decide, Or.inl rfl⟩
theorem pfi_78 : pfOk (10, 41, 8, 1, 8) := ⟨(tm1 (i := 108) rfl rfl), by decide, by decide, Or.inl rfl⟩
theorem pfi_79 : pfOk (10, 45, 8, 2, 8) := ⟨(tm1 (i := 113) rfl rfl), by decide, by decide, Or.inl rfl⟩
theorem pfi_80 : pfOk (10, 56, 8, 0, 8) := ⟨(tm1 (i := 104) rfl rfl), by decide, by decide, Or.inl rfl⟩
theorem pfi_81 : pfOk (10, 59, 8, 6, 8) := ⟨(tm1 (i := 130) rfl rfl), by decide, by decide, Or.inl rfl⟩
theorem pfi_82 : pfOk (10, 62, 8, 4, 8) := ⟨(tm1 (i := 124) rfl rfl), by decide, by decide, Or.inl rfl⟩
theorem pfi_83 : pfOk (11, 12, 11, 0, 11) := ⟨(tm2 (i := 103) rfl rfl), by decide, by decide, Or.inl rfl⟩
theorem pfi_84 : pfOk (11, 19, 11, 1, 11) := ⟨(tm2 (i := 104) rfl rfl), by decide, by decide, Or.inl rfl⟩
theorem pfi_85 : pfOk (11, 26, 11, 2, 11) := ⟨(tm2 (i := 105) rfl rfl), by decide, by decide, Or.inl rfl⟩
theorem pfi_86 : pfOk (11, 33, 11, 3, 11) := ⟨(tm2 (i := 106) rfl rfl), by decide, by decide, Or.inl rfl⟩
theorem pfi_87 : pfOk (11, 40, 11, 4, 11) := ⟨(tm2 (i := 107) rfl rfl), by decide, by decide, Or.inl rfl⟩
theorem pfi_88 : pfOk (11, 47, 11, 5, 11) := ⟨(tm2 (i := 108) rfl rfl), by decide, by decide, Or.inl rfl⟩
theorem pfi_89 : pfOk (11, 54, 11, 6, 11) := ⟨(tm2 (i := 109) rfl rfl), by decide, by decide, Or.inl rfl⟩
theorem pfi_90 : pfOk (11, 61, 11, 7, 11) := ⟨(tm2 (i := 110) rfl rfl), by decide, by decide, Or.inl rfl⟩
theorem pfi_91 : pfOk (11, 65, 2, 1, 2) := ⟨(tm1 (i := 91) rfl rfl), by decide, by decide, Or.inl rfl⟩
theorem pfi_92 : pfOk (11, 77, 8, 3, 8) := ⟨(tm1 (i := 116) rfl rfl), by decide, by decide, Or.inl rfl⟩
theorem pfi_93 : pfOk (11, 94, 8, 1, 8) := ⟨(tm1 (i := 107) rfl rfl), by decide, by decide, Or.inl rfl⟩
theorem pfi_94 : pfOk (11, 97, 8, 2, 8) := ⟨(tm1 (i := 111) rfl rfl), by decide, by decide, Or.inl rfl⟩
theorem pfi_95 : pfOk (11, 100, 8, 6, 8) := ⟨(tm1 (i := 129) rfl rfl), by decide, by decide, Or.inl rfl⟩
theorem pfi_96 : pfOk (11, 110, 8, 4, 8) := ⟨(tm1 (i := 121) rfl rfl), by decide, by decide, Or.inl rfl⟩
theorem pfi_97 : pfOk (11, 127, 2, 0, 2) := ⟨(tm1 (i := 89) rfl rfl), by decide, by decide, Or.inl rfl⟩
theorem pfi_98 : pfOk (11, 147, 0, 0, 0) := ⟨(tm3 (i := 31) rfl rfl), by decide, by decide, Or.inl rfl⟩
theorem pfi_99 : pfOk (11, 163, 0, 1, 0) := ⟨(tm3 (i := 35) rfl rfl), by decide, by decide, Or.inl rfl⟩
theorem pfi_100 : pfOk (11, 176, 0, 5, 0) := ⟨(tm3 (i := 47) rfl rfl), by decide, by decide, Or.inl rfl⟩
theorem pfi_101 : pfOk (11, 179, 0, 6, 0) := ⟨(tm3 (i := 50) rfl rfl), by decide, by decide, Or.inl rfl⟩
theorem pfi_102 : pfOk (11, 204, 6, 2, 6) := ⟨(tm2 (i := 42) rfl rfl), by decide, by decide, Or.inl rfl⟩
theorem pfi_103 : pfOk (11, 219, 6, 1, 6) := ⟨(tm2 (i := 40) rfl rfl), by decide, by decide, Or.inl rfl⟩
theorem pfi_104 : pfOk (11, 220, 6, 0, 6) := ⟨(tm2 (i := 38) rfl rfl), by decide, by decide, Or.inl rfl⟩
theorem pfi_105 : pfOk (11, 228, 0, 4, 0) := ⟨(tm3 (i := 43) rfl rfl), by decide, by decide, Or.inl rfl⟩
theorem pfi_106 : pfOk (11, 250, 1, 2, 1) := ⟨(tm1 (i := 238) rfl rfl), by decide, by decide, Or.inl rfl⟩
theorem pfi_107 : pfOk (11, 256, 1, 0, 1) := ⟨(tm1 (i := 235) rfl rfl), by decide, by decide, Or.inl rfl⟩
theorem pfi_108 : pfOk (11, 267, 3, 2, 3) := ⟨(tm4 (i := 20) rfl rfl), by decide, by decide, Or.inl rfl⟩
theorem pfi_109 : pfOk (11, 269, 3, 1, 3) := ⟨(tm4 (i := 17) rfl rfl), by decide, by decide, Or.inl rfl⟩
theorem pfi_110 : pfOk (11, 273, 7, 2, 7) := ⟨(tm2 (i := 95) rfl rfl), by decide, by decide, Or.inl rfl⟩
theorem pfi_111 : pfOk (11, 276, 3, 3, 3) := ⟨(tm4 (i := 23) rfl rfl), by decide, by decide, Or.inl rfl⟩
theorem pfi_112 : pfOk (11, 279, 7, 1, 7) := ⟨(tm2 (i := 93) rfl rfl), by decide, by decide, Or.inl rfl⟩
theorem pfi_113 : pfOk (11, 284, 1, 3, 1) := ⟨(tm2 (i := 0) rfl rfl), by decide, by decide, Or.inl rfl⟩
theorem pfi_114 : pfOk (11, 287, 6, 3, 6) := ⟨(tm2 (i := 44) rfl rfl), by decide, by decide, Or.inl rfl⟩
theorem pfi_115 : pfOk (11, 288, 1, 4, 1) := ⟨(tm2 (i := 2) rfl rfl), by decide, by decide, Or.inl rfl⟩
theorem pfi_116 : pfOk (11, 291, 6, 4, 6) := ⟨(tm2 (i := 46) rfl rfl), by decide, by decide, Or.inl rfl⟩
theorem pfi_117 : pfOk (11, 297, 4, 0, 4) := ⟨(tm1 (i := 222) rfl rfl), by decide, by decide, Or.inl rfl⟩
theorem pfi_118 : pfOk (12, 7, 12, 0, 12) := ⟨(tm4 (i := 231) rfl rfl), by decide, by decide, Or.inl rfl⟩
theorem pfi_119 : pfOk (12, 13, 12, 1, 12) := ⟨(tm4 (i := 232) rfl rfl), by decide, by decide, Or.inl rfl⟩
theorem pfi_120 : pfOk (12, 17, 12, 2, 12) := ⟨(tm4 (i := 233) rfl rfl), by decide, by decide, Or.inl rfl⟩
theorem pfi_121 : pfOk (12, 20, 12, 3, 12) := ⟨(tm4 (i := 234) rfl rfl), by decide, by decide, Or.inl rfl⟩
theorem pfi_122 : pfOk (12, 24, 12, 4, 12) := ⟨(tm4 (i := 235) rfl rfl), by decide, by decide, Or.inl rfl⟩
theorem pfi_123 : pfOk (12, 27, 12, 5, 12) := ⟨(tm4 (i := 236) rfl rfl), by decide, by decide, Or.inl rfl⟩
theorem pfi_124 : pfOk (12, 30, 12, 6, 12) := ⟨(tm4 (i := 237) rfl rfl), by decide, by decide, Or.inl rfl⟩
theorem pfi_125 : pfOk (12, 33, 12, 7, 12) := ⟨(tm4 (i := 238) rfl rfl), by decide, by decide, Or.inl rfl⟩
theorem pfi_126 : pfOk (12, 36, 12, 10, 12) := ⟨(tm5 (i := 1) rfl rfl), by decide, by decide, Or.inl rfl⟩
theorem pfi_127 : pfOk (12, 39, 12, 11, 12) := ⟨(tm5 (i := 2) rfl rfl), by decide, by decide, Or.inl rfl⟩
theorem pfi_128 : pfOk (12, 42, 12, 12, 12) := ⟨(tm5 (i := 3) rfl rfl), by decide, by decide, Or.inl rfl⟩
theorem pfi_129 : pfOk (12, 45, 12, 13, 12) := ⟨(tm5 (i := 4) rfl rfl), by decide, by decide, Or.inl rfl⟩
theorem pfi_130 : pfOk (12, 48, 12, 14, 12) := ⟨(tm5 (i := 5) rfl rfl), by decide, by decide, Or.inl rfl⟩
theorem pfi_131 : pfOk (12, 51, 12, 15, 12) := ⟨(tm5 (i := 6) rfl rfl), by decide, by decide, Or.inl rfl⟩
theorem pfi_132 : pfOk (12, 54, 12, 16, 12) := ⟨(tm5 (i := 7) rfl rfl), by decide, by decide, Or.inl rfl⟩
theorem pfi_133 : pfOk (12, 57, 12, 17, 12) := ⟨(tm5 (i := 8) rfl rfl), by decide, by decide, Or.inl rfl⟩
theorem pfi_134 : pfOk (12, 61, 12, 18, 12) := ⟨(tm5 (i := 9) rfl rfl), by decide, by decide, Or.inl rfl⟩
theorem pfi_135 : pfOk (12, 64, 12, 19, 12) := ⟨(tm5 (i := 10) rfl rfl), by decide, by decide, Or.inl rfl⟩
theorem pfi_136 : pfOk (12, 67, 12, 20, 12) := ⟨(tm5 (i := 11) rfl rfl), by decide, by decide, Or.inl rfl⟩
theorem pfi_137 : pfOk (12, 70, 12, 22, 12) := ⟨(tm5 (i := 13) rfl rfl), by decide, by decide, Or.inl rfl⟩
theorem pfi_138 : pfOk (12, 73, 12, 23, 12) := ⟨(tm5 (i := 14) rfl rfl), by decide, by decide, Or.inl rfl⟩
theorem pfi_139 : pfOk (12, 77, 12, 24, 12) := ⟨(tm5 (i := 15) rfl rfl), by decide, by decide, Or.inl rfl⟩
theorem pfi_140 : pfOk (12, 80, 12, 25, 12) := ⟨(tm5 (i := 16) rfl rfl), by decide, by decide, Or.inl rfl⟩
theorem pfi_141 : pfOk (12, 83, 12, 26, 12) := ⟨(tm5 (i := 17) rfl rfl), by decide, by decide, Or.inl rfl⟩
theorem pfi_142 : pfOk (12, 86, 12, 27, 12) := ⟨(tm5 (i := 18) rfl rfl), by decide, by decide, Or.inl rfl⟩
theorem pfi_143 : pfOk (12, 89, 12, 28, 12) := ⟨(tm5 (i := 19) rfl rfl), by decide, by decide, Or.inl rfl⟩
theorem pfi_144 : pfOk (12, 92, 12, 29, 12) := ⟨(tm5 (i := 20) rfl rfl), by decide, by decide, Or.inl rfl⟩
theorem pfi_145 : pfOk (12, 95, 12, 30, 12) := ⟨(tm5 (i := 21) rfl rfl), by decide, by decide, Or.inl rfl⟩
theorem pfi_146 : pfOk (12, 98, 12, 31, 12) := ⟨(tm5 (i := 22) rfl rfl), by decide, by decide, Or.inl rfl⟩
theorem pfi_147 : pfOk (12, 101, 12, 33, 12) := ⟨(tm5 (i := 24) rfl rfl), by decide, by decide, Or.inl rfl⟩
theorem pfi_148 : pfOk (12, 104, 12, 34, 12) := ⟨(tm5 (i := 25) rfl rfl), by decide, by decide, Or.inl rfl⟩
theorem pfi_149 : pfOk (12, 107, 12, 35, 12) := ⟨(tm5 (i := 26) rfl rfl), by decide, by decide, Or.inl rfl⟩
theorem pfi_150 : pfOk (12, 110, 12, 36, 12) := ⟨(tm5 (i := 27) rfl rfl), by decide, by decide, Or.inl rfl⟩
theorem pfi_151 : pfOk (12, 113, 12, 41, 12) := ⟨(tm5 (i := 32) rfl rfl), by decide, by decide, Or.inl rfl⟩
theorem pfi_152 : pfOk (12, 116, 12, 42, 12) := ⟨(tm5 (i := 33) rfl rfl), by decide, by decide, Or.inl rfl⟩
theorem pfi_153 : pfOk (12, 119, 12, 44, 12) := ⟨(tm5 (i := 35) rfl rfl), by decide, by decide, Or.inl rfl⟩
theorem pfi_154 : pfOk (12, 122, 12, 45, 12) := ⟨(tm5 (i := 36) rfl rfl), by decide, by decide, Or.inl rfl⟩
theorem pfi_155 : pfOk (12, 125, 12, 47, 12) := ⟨(tm5 (i := 38) rfl rfl), by decide, by decide, Or.inl rfl⟩
theorem pfi_156 : pfOk (12, 128, 12, 50, 12) := ⟨(tm5 (i := 41) rfl rfl), by decide, by decide, Or.inl rfl⟩
theorem pfi_157 : pfOk (12, 131, 12, 51, 12) := ⟨(tm5 (i := 42) rfl rfl), by decide, by decide, Or.inl rfl⟩
theorem pfi_158 : pfOk (12, 134, 12, 52, 12) := ⟨(tm5 (i := 43) rfl rfl), by decide, by decide, Or.inl rfl⟩
theorem pfi_159 : pfOk (12, 137, 12, 53, 12) := ⟨(tm5 (i := 44) rfl rfl), by decide, by decide, Or.inl rfl⟩
theorem pfi_160 : pfOk (12, 144, 12, 9, 12) := ⟨(tm5 (i := 0) rfl rfl), by decide, by decide, Or.inl rfl⟩
theorem pfi_161 : pfOk (12, 151, 12, 8, 12) := ⟨(tm4 (i := 239) rfl rfl), by decide, by decide, Or.inl rfl⟩
theorem pfi_162 : pfOk (12, 187, 12, 43, 12) := ⟨(tm5 (i := 34) rfl rfl), by decide, by decide, Or.inl rfl⟩
theorem pfi_163 : pfOk (12, 193, 12, 46, 12) := ⟨(tm5 (i := 37) rfl rfl), by decide, by decide, Or.inl rfl⟩
theorem pfi_164 : pfOk (12, 225, 12, 48, 12) := ⟨(tm5 (i := 39) rfl rfl), by decide, by decide, Or.inl rfl⟩
theorem pfi_165 : pfOk (12, 228, 12, 49, 12) := ⟨(tm5 (i := 40) rfl rfl), by decide, by decide, Or.inl rfl⟩
theorem pfi_166 : pfOk (12, 268, 12, 21, 12) := ⟨(tm5 (i := 12) rfl rfl), by decide, by decide, Or.inl rfl⟩
theorem pfi_167 : pfOk (12, 277, 12, 39, 12) := ⟨(tm5 (i := 30) rfl rfl), by decide, by decide, Or.inl rfl⟩
theorem pfi_168 : pfOk (12, 284, 12, 32, 12) := ⟨(tm5 (i := 23) rfl rfl), by decide, by decide, Or.inl rfl⟩
theorem pfi_169 : pfOk (12, 299, 12, 37, 12) := ⟨(tm5 (i := 28) rfl rfl), by decide, by decide, Or.inl rfl⟩
theorem pfi_170 : pfOk (12, 305, 12, 38, 12) := ⟨(tm5 (i := 29) rfl rfl), by decide, by decide, Or.inl rfl⟩
theorem pfi_171 : pfOk (12, 311, 12, 40, 12) := ⟨(tm5 (i := 31) rfl rfl), by decide, by decide, Or.inl rfl⟩
theorem pfi_172 : pfOk (13, 9, 13, 1, 13) := ⟨(tm1 (i := 52) rfl rfl), by decide, by decide, Or.inl rfl⟩
theorem pfi_173 : pfOk (13, 48, 13, 2, 13) := ⟨(tm1 (i := 53) rfl rfl), by decide, by decide, Or.inl rfl⟩
theorem pfi_174 : pfOk (13, 63, 13, 0, 13) := ⟨(tm1 (i := 55) rfl rfl), by decide, by decide, Or.inr (tm1 (i := 56) rfl rfl)⟩
theorem pfi_175 : pfOk (14, 7, 13, 0, 14) := ⟨(tm1 (i := 54) rfl rfl), by decide, by decide, Or.inl rfl⟩
theorem pf_ok_g0 : ∀ q ∈ (zPF.drop 0).take 25, pfOk q := List.forall_mem_cons.mpr ⟨pfi_0, List.forall_mem_cons.mpr ⟨pfi_1, List.forall_mem_cons.mpr ⟨pfi_2, List.forall_mem_cons.mpr ⟨pfi_3, List.forall_mem_cons.mpr ⟨pfi_4, List.forall_mem_cons.mpr ⟨pfi_5, List.forall_mem_cons.mpr ⟨pfi_6, List.forall_mem_cons.mpr ⟨pfi_7, List.forall_mem_cons.mpr ⟨pfi_8, List.forall_mem_cons.mpr ⟨pfi_9, List.forall_mem_cons.mpr ⟨pfi_10, List.forall_mem_cons.mpr ⟨pfi_11, List.forall_mem_cons.mpr ⟨pfi_12, List.forall_mem_cons.mpr ⟨pfi_13, List.forall_mem_cons.mpr ⟨pfi_14, List.forall_mem_cons.mpr ⟨pfi_15, List.forall_mem_cons.mpr ⟨pfi_16, List.forall_mem_cons.mpr ⟨pfi_17, List.forall_mem_cons.mpr ⟨pfi_18, List.forall_mem_cons.mpr ⟨pfi_19, List.forall_mem_cons.mpr ⟨pfi_20, List.forall_mem_cons.mpr ⟨pfi_21, List.forall_mem_cons.mpr ⟨pfi_22, List.forall_mem_cons.mpr ⟨pfi_23, List.forall_mem_cons.mpr ⟨pfi_24, fun _ h => absurd h List.not_mem_nil⟩⟩⟩⟩⟩⟩⟩⟩⟩⟩⟩⟩⟩⟩⟩⟩⟩⟩⟩⟩⟩⟩⟩⟩⟩
theorem pf_ok_g1 : ∀ q ∈ (zPF.drop 25).take 25, pfOk q := List.forall_mem_cons.mpr ⟨pfi_25, List.forall_mem_cons.mpr ⟨pfi_26, List.forall_mem_cons.mpr ⟨pfi_27, List.forall_mem_cons.mpr ⟨pfi_28, List.forall_mem_cons.mpr ⟨pfi_29, List.forall_mem_cons.mpr ⟨pfi_30, List.forall_mem_cons.mpr ⟨pfi_31, List.forall_mem_cons.mpr ⟨pfi_32, List.forall_mem_cons.mpr ⟨pfi_33, List.forall_mem_cons.mpr ⟨pfi_34, List.forall_mem_cons.mpr ⟨pfi_35, List.forall_mem_cons.mpr ⟨pfi_36, List.forall_mem_cons.mpr ⟨pfi_37, List.forall_mem_cons.mpr ⟨pfi_38, List.forall_mem_cons.mpr ⟨pfi_39, List.forall_mem_cons.mpr ⟨pfi_40, List.forall_mem_cons.mpr ⟨pfi_41, List.forall_mem_cons.mpr ⟨pfi_42, List.forall_mem_cons.mpr ⟨pfi_43, List.forall_mem_cons.mpr ⟨pfi_44, List.forall_mem_cons.mpr ⟨pfi_45, List.forall_mem_cons.mpr ⟨pfi_46, List.forall_mem_cons.mpr ⟨pfi_47, List.forall_mem_cons.mpr ⟨pfi_48, List.forall_mem_cons.mpr ⟨pfi_49, fun _ h => absurd h List.not_mem_nil⟩⟩⟩⟩⟩⟩⟩⟩⟩⟩⟩⟩⟩⟩⟩⟩⟩⟩⟩⟩⟩⟩⟩⟩⟩
theorem pf_ok_g2 : ∀ q ∈ (zPF.drop 50).take 25, pfOk q := List.forall_mem_cons.mpr ⟨pfi_50, List.forall_mem_cons.mpr ⟨pfi_51, List.forall_mem_cons.mpr ⟨pfi_52, List.forall_mem_cons.mpr ⟨pfi_53, List.forall_mem_cons.mpr ⟨pfi_54, List.forall_mem_cons.mpr ⟨pfi_55, List.forall_mem_cons.mpr ⟨pfi_56, List.forall_mem_cons.mpr ⟨pfi_57, List.forall_mem_cons.mpr ⟨pfi_58, List.forall_mem_cons.mpr ⟨pfi_59, List.forall_mem_cons.mpr ⟨pfi_60, List.forall_mem_cons.mpr ⟨pfi_61, List.forall_mem_cons.mpr ⟨pfi_62, List.forall_mem_cons.mpr ⟨pfi_63, List.forall_mem_cons.mpr ⟨pfi_64, List.forall_mem_cons.mpr ⟨pfi_65, List.forall_mem_cons.mpr ⟨pfi_66, List.forall_mem_cons.mpr ⟨pfi_67, List.forall_mem_cons.mpr ⟨pfi_68, List.forall_mem_cons.mpr ⟨pfi_69, List.forall_mem_cons.mpr ⟨pfi_70, List.forall_mem_cons.mpr ⟨pfi_71, List.forall_mem_cons.mpr ⟨pfi_72, List.forall_mem_cons.mpr ⟨pfi_73, List.forall_mem_cons.mpr ⟨pfi_74, fun _ h => absurd h List.not_mem_nil⟩⟩⟩⟩⟩⟩⟩⟩⟩⟩⟩⟩⟩⟩⟩⟩⟩⟩⟩⟩⟩⟩⟩⟩⟩
theorem pf_ok_g3 : ∀ q ∈ (zPF.drop 75).take 25, pfOk q := List.forall_mem_cons.mpr ⟨pfi_75, List.forall_mem_cons.mpr ⟨pfi_76, List.forall_mem_cons.mpr ⟨pfi_77, List.forall_mem_cons.mpr ⟨pfi_78, List.forall_mem_cons.mpr ⟨pfi_79, List.forall_mem_cons.mpr ⟨pfi_80, List.forall_mem_cons.mpr ⟨pfi_81, List.forall_mem_cons.mpr ⟨pfi_82, List.forall_mem_cons.mpr ⟨pfi_83, List.forall_mem_cons.mpr ⟨pfi_84, List.forall_mem_cons.mpr ⟨pfi_85, List.forall_mem_cons.mpr ⟨pfi_86, List.forall_mem_cons.mpr ⟨pfi_87, List.forall_mem_cons.mpr ⟨pfi_88, List.forall_mem_cons.mpr ⟨pfi_89, List.forall_mem_cons.mpr ⟨pfi_90, List.forall_mem_cons.mpr ⟨pfi_91, List.forall_mem_cons.mpr ⟨pfi_92, List.forall_mem_cons.mpr ⟨pfi_93, List.forall_mem_cons.mpr ⟨pfi_94, List.forall_mem_cons.mpr ⟨pfi_95, List.forall_mem_cons.mpr ⟨pfi_96, List.forall_mem_cons.mpr ⟨pfi_97, List.forall_mem_cons.mpr ⟨pfi_98, List.forall_mem_cons.mpr ⟨pfi_99, fun _ h => absurd h List.not_mem_nil⟩⟩⟩⟩⟩⟩⟩⟩⟩⟩⟩⟩⟩⟩⟩⟩⟩⟩⟩⟩⟩⟩⟩⟩⟩
theorem pf_ok_g4 : ∀ q ∈ (zPF.drop 100).take 25, pfOk q := List.forall_mem_cons.mpr ⟨pfi_100, List.forall_mem_cons.mpr ⟨pfi_101, List.forall_mem_cons.mpr ⟨pfi_102, List.forall_mem_cons.mpr ⟨pfi_103, List.forall_mem_cons.mpr ⟨pfi_104, List.forall_mem_cons.mpr ⟨pfi_105, List.forall_mem_cons.mpr ⟨pfi_106, List.forall_mem_cons.mpr ⟨pfi_107, List.forall_mem_cons.mpr ⟨pfi_108, List.forall_mem_cons.mpr ⟨pfi_109, List.forall_mem_cons.mpr ⟨pfi_110, List.forall_mem_cons.mpr ⟨pfi_111, List.forall_mem_cons.mpr ⟨pfi_112, List.forall_mem_cons.mpr ⟨pfi_113, List.forall_mem_cons.mpr ⟨pfi_114, List.forall_mem_cons.mpr ⟨pfi_115, List.forall_mem_cons.mpr ⟨pfi_116, List.forall_mem_cons.mpr ⟨pfi_117, List.forall_mem_cons.mpr ⟨pfi_118, List.forall_mem_cons.mpr ⟨pfi_119, List.forall_mem_cons.mpr ⟨pfi_120, List.forall_mem_cons.mpr ⟨pfi_121, List.forall_mem_cons.mpr ⟨pfi_122, List.forall_mem_cons.mpr ⟨pfi_123, List.forall_mem_cons.mpr ⟨pfi_124, fun _ h => absurd h List.not_mem_nil⟩⟩⟩⟩⟩⟩⟩⟩⟩⟩⟩⟩⟩⟩⟩⟩⟩⟩⟩⟩⟩⟩⟩⟩⟩
theorem pf_ok_g5 : ∀ q ∈ (zPF.drop 125).take 25, pfOk q := List.forall_mem_cons.mpr ⟨pfi_125, List.forall_mem_cons.mpr ⟨pfi_126, List.forall_mem_cons.mpr ⟨pfi_127, List.forall_mem_cons.mpr ⟨pfi_128, List.forall_mem_cons.mpr ⟨pfi_129, List.forall_mem_cons.mpr ⟨pfi_130, List.forall_mem_cons.mpr ⟨pfi_131, List.forall_mem_cons.mpr ⟨pfi_132, List.forall_mem_cons.mpr ⟨pfi_133, List.forall_mem_cons.mpr ⟨pfi_134, List.forall_mem_cons.mpr ⟨pfi_135, List.forall_mem_cons.mpr ⟨pfi_136, List.forall_mem_cons.mpr ⟨pfi_137, List.forall_mem_cons.mpr ⟨pfi_138, List.forall_mem_cons.mpr ⟨pfi_139, List.forall_mem_cons.mpr ⟨pfi_140, List.forall_mem_cons.mpr ⟨pfi_141, List.forall_mem_cons.mpr ⟨pfi_142, List.forall_mem_cons.mpr ⟨pfi_143, List.forall_mem_cons.mpr ⟨pfi_144, List.forall_mem_cons.mpr ⟨pfi_145, List.forall_mem_cons.mpr ⟨pfi_146, List.forall_mem_cons.mpr ⟨pfi_147, List.forall_mem_cons.mpr ⟨pfi_148, List.forall_mem_cons.mpr ⟨pfi_149, fun _ h => absurd h List.not_mem_nil⟩⟩⟩⟩⟩⟩⟩⟩⟩⟩⟩⟩⟩⟩⟩⟩⟩⟩⟩⟩⟩⟩⟩⟩⟩
theorem pf_ok_g6 : ∀ q ∈ (zPF.drop 150).take 25, pfOk q := List.forall_mem_cons.mpr ⟨pfi_150, List.forall_mem_cons.mpr ⟨pfi_151, List.forall_mem_cons.mpr ⟨pfi_152, List.forall_mem_cons.mpr ⟨pfi_153, List.forall_mem_cons.mpr ⟨pfi_154, List.forall_mem_cons.mpr ⟨pfi_155, List.forall_mem_cons.mpr ⟨pfi_156, List.forall_mem_cons.mpr ⟨pfi_157, List.forall_mem_cons.mpr ⟨pfi_158, List.forall_mem_cons.mpr ⟨pfi_159, List.forall_mem_cons.mpr ⟨pfi_160, List.forall_mem_cons.mpr ⟨pfi_161, List.forall_mem_cons.mpr ⟨pfi_162, List.forall_mem_cons.mpr ⟨pfi_163, List.forall_mem_cons.mpr ⟨pfi_164, List.forall_mem_cons.mpr ⟨pfi_165, List.forall_mem_cons.mpr ⟨pfi_166, List.forall_mem_cons.mpr ⟨pfi_167, List.forall_mem_cons.mpr ⟨pfi_168, List.forall_mem_cons.mpr ⟨pfi_169, List.forall_mem_cons.mpr ⟨pfi_170, List.forall_mem_cons.mpr ⟨pfi_171, List.forall_mem_cons.mpr ⟨pfi_172, List.forall_mem_cons.mpr ⟨pfi_173, List.forall_mem_cons.mpr ⟨pfi_174, fun _ h => absurd h List.not_mem_nil⟩⟩⟩⟩⟩⟩⟩⟩⟩⟩⟩⟩⟩⟩⟩⟩⟩⟩⟩⟩⟩⟩⟩⟩⟩
theorem pf_ok_g7 : ∀ q ∈ (zPF.drop 175).take 25, pfOk q := List.forall_mem_cons.mpr ⟨pfi_175, fun _ h => absurd h List.not_mem_nil⟩
theorem pf_ok_cut : zPF = (zPF.drop 0).take 25 ++ ((zPF.drop 25).take 25 ++ ((zPF.drop 50).take 25 ++ ((zPF.drop 75).take 25 ++ ((zPF.drop 100).take 25 ++ ((zPF.drop 125).take 25 ++ ((zPF.drop 150).take 25 ++ ((zPF.drop 175).take 25))))))) := by decide +kernel
theorem pf_ok : ∀ q ∈ zPF, pfOk q := by
  rw [pf_ok_cut]
  exact List.forall_mem_append.mpr ⟨pf_ok_g0, List.forall_mem_append.mpr ⟨pf_ok_g1, List.forall_mem_append.mpr ⟨pf_ok_g2, List.forall_mem_append.mpr ⟨pf_ok_g3, List.forall_mem_append.mpr ⟨pf_ok_g4, List.forall_mem_append.mpr ⟨pf_ok_g5, List.forall_mem_append.mpr ⟨pf_ok_g6, pf_ok_g7⟩⟩⟩⟩⟩⟩⟩
def gcY : MethodName := ⟨"java/lang/Object", "getClass", "()Ljava/lang/Class;"⟩
def piY (x k : Nat) : MethodName := if k = 5 then objectInit else if k = 6 then arraycopyName else if k = 7 then gcY else if k = 8 then Lib.Math.max.name else if k = 9 then Lib.Math.min.name else mY x
/-- a call's link -/
def piOk (q : Nat × Nat × Nat × Nat × Nat) : Prop := (if q.2.2.2.1 = 3 ∨ q.2.2.2.1 = 4 then .methodLinkNest (cNm q.1) q.2.1 (mY q.2.2.1) "BuildCache" ∈ lw_tbl else .methodLink (cNm q.1) q.2.1 (piY q.2.2.1 q.2.2.2.1) ∈ bigW) ∧
  (q.2.2.2.1 < 5 → q.2.2.1 < 204 ∧ (parseMethodDescriptor (mY q.2.2.1).desc).map (fun d => d.parameters.length) = some q.2.2.2.2 ∧ (q.2.2.2.1 = 0 → Cond.selects (mY q.2.2.1).cls (mY q.2.2.1) (mY q.2.2.1) ∈ bigW) ∧ (if q.2.2.2.1 = 1 ∨ q.2.2.2.1 = 4 then Cond.static (mY q.2.2.1) else Cond.instanceMethod (mY q.2.2.1)) ∈ bigW ∧ (q.2.2.2.1 = 2 ∨ q.2.2.2.1 = 3 → (mY q.2.2.1).name = "<init>" ∧ mR q.2.2.1 = none))
theorem pii_0 : piOk (0, 3, 0, 5, 0) := ⟨(tm3 (i := 21) rfl rfl), fun h => absurd h (by decide)⟩
theorem pii_1 : piOk (0, 11, 184, 2, 0) := ⟨(tm3 (i := 23) rfl rfl), fun _ => ⟨by decide, by decide +kernel, fun h => absurd h (by decide), wi_184, fun _ => ⟨rfl, rfl⟩⟩⟩
theorem pii_2 : piOk (0, 42, 40, 3, 0) := ⟨(tl3 (i := 26) rfl), fun _ => ⟨by decide, by decide +kernel, fun h => absurd h (by decide), wi_40, fun _ => ⟨rfl, rfl⟩⟩⟩
theorem pii_3 : piOk (0, 43, 187, 0, 0) := ⟨(tm3 (i := 84) rfl rfl), fun _ => ⟨by decide, by decide +kernel, fun _ => ws_187, wi_187, fun h => absurd h (by decide)⟩⟩
theorem pii_4 : piOk (0, 47, 190, 0, 1) := ⟨(tm3 (i := 85) rfl rfl), fun _ => ⟨by decide, by decide +kernel, fun _ => ws_190, wi_190, fun h => absurd h (by decide)⟩⟩
theorem pii_5 : piOk (0, 56, 61, 0, 1) := ⟨(tm3 (i := 139) rfl rfl), fun _ => ⟨by decide, by decide +kernel, fun _ => ws_61, wi_61, fun h => absurd h (by decide)⟩⟩
theorem pii_6 : piOk (0, 60, 196, 0, 0) := ⟨(tm3 (i := 140) rfl rfl), fun _ => ⟨by decide, by decide +kernel, fun _ => ws_196, wi_196, fun h => absurd h (by decide)⟩⟩
theorem pii_7 : piOk (0, 70, 17, 0, 1) := ⟨(tm4 (i := 141) rfl rfl), fun _ => ⟨by decide, by decide +kernel, fun _ => ws_17, wi_17, fun h => absurd h (by decide)⟩⟩
theorem pii_8 : piOk (1, 3, 0, 5, 0) := ⟨(tm1 (i := 231) rfl rfl), fun h => absurd h (by decide)⟩
theorem pii_9 : piOk (1, 11, 184, 2, 0) := ⟨(tm1 (i := 233) rfl rfl), fun _ => ⟨by decide, by decide +kernel, fun h => absurd h (by decide), wi_184, fun _ => ⟨rfl, rfl⟩⟩⟩
theorem pii_10 : piOk (1, 31, 12, 0, 0) := ⟨(tm4 (i := 218) rfl rfl), fun _ => ⟨by decide, by decide +kernel, fun _ => ws_12, wi_12, fun h => absurd h (by decide)⟩⟩
theorem pii_11 : piOk (1, 35, 47, 0, 0) := ⟨(tm3 (i := 226) rfl rfl), fun _ => ⟨by decide, by decide +kernel, fun _ => ws_47, wi_47, fun h => absurd h (by decide)⟩⟩
theorem pii_12 : piOk (1, 41, 187, 0, 0) := ⟨(tm3 (i := 232) rfl rfl), fun _ => ⟨by decide, by decide +kernel, fun _ => ws_187, wi_187, fun h => absurd h (by decide)⟩⟩
theorem pii_13 : piOk (1, 44, 190, 0, 1) := ⟨(tm3 (i := 233) rfl rfl), fun _ => ⟨by decide, by decide +kernel, fun _ => ws_190, wi_190, fun h => absurd h (by decide)⟩⟩
theorem pii_14 : piOk (1, 57, 48, 0, 1) := ⟨(tm3 (i := 235) rfl rfl), fun _ => ⟨by decide, by decide +kernel, fun _ => ws_48, wi_48, fun h => absurd h (by decide)⟩⟩
theorem pii_15 : piOk (1, 61, 194, 0, 1) := ⟨(tm4 (i := 33) rfl rfl), fun _ => ⟨by decide, by decide +kernel, fun _ => ws_194, wi_194, fun h => absurd h (by decide)⟩⟩
theorem pii_16 : piOk (1, 64, 192, 0, 1) := ⟨(tm4 (i := 54) rfl rfl), fun _ => ⟨by decide, by decide +kernel, fun _ => ws_192, wi_192, fun h => absurd h (by decide)⟩⟩
theorem pii_17 : piOk (1, 71, 188, 0, 0) := ⟨(tm4 (i := 0) rfl rfl), fun _ => ⟨by decide, by decide +kernel, fun _ => ws_188, wi_188, fun h => absurd h (by decide)⟩⟩
theorem pii_18 : piOk (1, 75, 27, 3, 0) := ⟨(tl4 (i := 5) rfl), fun _ => ⟨by decide, by decide +kernel, fun h => absurd h (by decide), wi_27, fun _ => ⟨rfl, rfl⟩⟩⟩
theorem pii_19 : piOk (1, 76, 28, 0, 1) := ⟨(tm4 (i := 41) rfl rfl), fun _ => ⟨by decide, by decide +kernel, fun _ => ws_28, wi_28, fun h => absurd h (by decide)⟩⟩
theorem pii_20 : piOk (1, 84, 58, 0, 0) := ⟨(tm4 (i := 151) rfl rfl), fun _ => ⟨by decide, by decide +kernel, fun _ => ws_58, wi_58, fun h => absurd h (by decide)⟩⟩
theorem pii_21 : piOk (1, 87, 11, 0, 0) := ⟨(tm4 (i := 156) rfl rfl), fun _ => ⟨by decide, by decide +kernel, fun _ => ws_11, wi_11, fun h => absurd h (by decide)⟩⟩
theorem pii_22 : piOk (1, 90, 196, 0, 0) := ⟨(tm4 (i := 203) rfl rfl), fun _ => ⟨by decide, by decide +kernel, fun _ => ws_196, wi_196, fun h => absurd h (by decide)⟩⟩
theorem pii_23 : piOk (2, 3, 0, 5, 0) := ⟨(tm1 (i := 86) rfl rfl), fun h => absurd h (by decide)⟩
theorem pii_24 : piOk (2, 19, 15, 0, 1) := ⟨(tm4 (i := 84) rfl rfl), fun _ => ⟨by decide, by decide +kernel, fun _ => ws_15, wi_15, fun h => absurd h (by decide)⟩⟩
theorem pii_25 : piOk (2, 23, 19, 0, 0) := ⟨(tm4 (i := 115) rfl rfl), fun _ => ⟨by decide, by decide +kernel, fun _ => ws_19, wi_19, fun h => absurd h (by decide)⟩⟩
theorem pii_26 : piOk (2, 26, 25, 0, 2) := ⟨(tm4 (i := 128) rfl rfl), fun _ => ⟨by decide, by decide +kernel, fun _ => ws_25, wi_25, fun h => absurd h (by decide)⟩⟩
theorem pii_27 : piOk (3, 1, 0, 5, 0) := ⟨(tm4 (i := 8) rfl rfl), fun h => absurd h (by decide)⟩
theorem pii_28 : piOk (3, 9, 40, 3, 0) := ⟨(tl4 (i := 10) rfl), fun _ => ⟨by decide, by decide +kernel, fun h => absurd h (by decide), wi_40, fun _ => ⟨rfl, rfl⟩⟩⟩
theorem pii_29 : piOk (3, 18, 55, 2, 0) := ⟨(tm4 (i := 12) rfl rfl), fun _ => ⟨by decide, by decide +kernel, fun h => absurd h (by decide), wi_55, fun _ => ⟨rfl, rfl⟩⟩⟩
theorem pii_30 : piOk (3, 31, 46, 0, 1) := ⟨(tm4 (i := 45) rfl rfl), fun _ => ⟨by decide, by decide +kernel, fun _ => ws_46, wi_46, fun h => absurd h (by decide)⟩⟩
theorem pii_31 : piOk (3, 35, 47, 0, 0) := ⟨(tm4 (i := 49) rfl rfl), fun _ => ⟨by decide, by decide +kernel, fun _ => ws_47, wi_47, fun h => absurd h (by decide)⟩⟩
theorem pii_32 : piOk (4, 3, 0, 5, 0) := ⟨(tm1 (i := 218) rfl rfl), fun h => absurd h (by decide)⟩
theorem pii_33 : piOk (4, 11, 184, 2, 0) := ⟨(tm1 (i := 220) rfl rfl), fun _ => ⟨by decide, by decide +kernel, fun h => absurd h (by decide), wi_184, fun _ => ⟨rfl, rfl⟩⟩⟩
theorem pii_34 : piOk (4, 18, 187, 0, 0) := ⟨(tm3 (i := 11) rfl rfl), fun _ => ⟨by decide, by decide +kernel, fun _ => ws_187, wi_187, fun h => absurd h (by decide)⟩⟩
theorem pii_35 : piOk (4, 22, 190, 0, 1) := ⟨(tm3 (i := 79) rfl rfl), fun _ => ⟨by decide, by decide +kernel, fun _ => ws_190, wi_190, fun h => absurd h (by decide)⟩⟩
theorem pii_36 : piOk (4, 28, 0, 2, 0) := ⟨(tm3 (i := 18) rfl rfl), fun _ => ⟨by decide, by decide +kernel, fun h => absurd h (by decide), wi_0, fun _ => ⟨rfl, rfl⟩⟩⟩
theorem pii_37 : piOk (4, 29, 192, 0, 1) := ⟨(tm3 (i := 66) rfl rfl), fun _ => ⟨by decide, by decide +kernel, fun _ => ws_192, wi_192, fun h => absurd h (by decide)⟩⟩
theorem pii_38 : piOk (4, 42, 62, 0, 0) := ⟨(tm3 (i := 91) rfl rfl), fun _ => ⟨by decide, by decide +kernel, fun _ => ws_62, wi_62, fun h => absurd h (by decide)⟩⟩
theorem pii_39 : piOk (4, 46, 108, 4, 1) := ⟨(tl3 (i := 102) rfl), fun _ => ⟨by decide, by decide +kernel, fun h => absurd h (by decide), wi_108, fun h => absurd h (by decide)⟩⟩
theorem pii_40 : piOk (4, 50, 36, 0, 1) := ⟨(tm3 (i := 98) rfl rfl), fun _ => ⟨by decide, by decide +kernel, fun _ => ws_36, wi_36, fun h => absurd h (by decide)⟩⟩
theorem pii_41 : piOk (4, 58, 1, 0, 1) := ⟨(tm3 (i := 118) rfl rfl), fun _ => ⟨by decide, by decide +kernel, fun _ => ws_1, wi_1, fun h => absurd h (by decide)⟩⟩
theorem pii_42 : piOk (5, 3, 0, 5, 0) := ⟨(tm2 (i := 63) rfl rfl), fun h => absurd h (by decide)⟩
theorem pii_43 : piOk (5, 34, 187, 0, 0) := ⟨(tm3 (i := 182) rfl rfl), fun _ => ⟨by decide, by decide +kernel, fun _ => ws_187, wi_187, fun h => absurd h (by decide)⟩⟩
theorem pii_44 : piOk (5, 39, 45, 0, 1) := ⟨(tm3 (i := 183) rfl rfl), fun _ => ⟨by decide, by decide +kernel, fun _ => ws_45, wi_45, fun h => absurd h (by decide)⟩⟩
theorem pii_45 : piOk (5, 53, 190, 0, 1) := ⟨(tm3 (i := 187) rfl rfl), fun _ => ⟨by decide, by decide +kernel, fun _ => ws_190, wi_190, fun h => absurd h (by decide)⟩⟩
theorem pii_46 : piOk (5, 59, 42, 0, 2) := ⟨(tm3 (i := 189) rfl rfl), fun _ => ⟨by decide, by decide +kernel, fun _ => ws_42, wi_42, fun h => absurd h (by decide)⟩⟩
theorem pii_47 : piOk (5, 67, 43, 0, 2) := ⟨(tm3 (i := 193) rfl rfl), fun _ => ⟨by decide, by decide +kernel, fun _ => ws_43, wi_43, fun h => absurd h (by decide)⟩⟩
theorem pii_48 : piOk (5, 74, 44, 0, 1) := ⟨(tm3 (i := 206) rfl rfl), fun _ => ⟨by decide, by decide +kernel, fun _ => ws_44, wi_44, fun h => absurd h (by decide)⟩⟩
theorem pii_49 : piOk (5, 78, 63, 0, 1) := ⟨(tm3 (i := 197) rfl rfl), fun _ => ⟨by decide, by decide +kernel, fun _ => ws_63, wi_63, fun h => absurd h (by decide)⟩⟩
theorem pii_50 : piOk (5, 85, 14, 0, 0) := ⟨(tm3 (i := 205) rfl rfl), fun _ => ⟨by decide, by decide +kernel, fun _ => ws_14, wi_14, fun h => absurd h (by decide)⟩⟩
theorem pii_51 : piOk (5, 102, 49, 0, 1) := ⟨(tm3 (i := 218) rfl rfl), fun _ => ⟨by decide, by decide +kernel, fun _ => ws_49, wi_49, fun h => absurd h (by decide)⟩⟩
theorem pii_52 : piOk (5, 106, 48, 0, 1) := ⟨(tm3 (i := 214) rfl rfl), fun _ => ⟨by decide, by decide +kernel, fun _ => ws_48, wi_48, fun h => absurd h (by decide)⟩⟩
theorem pii_53 : piOk (6, 3, 0, 5, 0) := ⟨(tm2 (i := 34) rfl rfl), fun h => absurd h (by decide)⟩
theorem pii_54 : piOk (7, 3, 0, 5, 0) := ⟨(tm2 (i := 85) rfl rfl), fun h => absurd h (by decide)⟩
theorem pii_55 : piOk (7, 24, 13, 3, 0) := ⟨(tl2 (i := 87) rfl), fun _ => ⟨by decide, by decide +kernel, fun h => absurd h (by decide), wi_13, fun _ => ⟨rfl, rfl⟩⟩⟩
theorem pii_56 : piOk (7, 25, 0, 9, 2) := ⟨(tm4 (i := 64) rfl rfl), fun h => absurd h (by decide)⟩
theorem pii_57 : piOk (7, 31, 57, 0, 1) := ⟨(tm4 (i := 65) rfl rfl), fun _ => ⟨by decide, by decide +kernel, fun _ => ws_57, wi_57, fun h => absurd h (by decide)⟩⟩
theorem pii_58 : piOk (7, 38, 0, 8, 2) := ⟨(tm4 (i := 155) rfl rfl), fun h => absurd h (by decide)⟩
theorem pii_59 : piOk (8, 3, 0, 5, 0) := ⟨(tm1 (i := 77) rfl rfl), fun h => absurd h (by decide)⟩
theorem pii_60 : piOk (8, 19, 184, 2, 0) := ⟨(tm1 (i := 81) rfl rfl), fun _ => ⟨by decide, by decide +kernel, fun h => absurd h (by decide), wi_184, fun _ => ⟨rfl, rfl⟩⟩⟩
theorem pii_61 : piOk (8, 41, 13, 3, 0) := ⟨(tl1 (i := 83) rfl), fun _ => ⟨by decide, by decide +kernel, fun h => absurd h (by decide), wi_13, fun _ => ⟨rfl, rfl⟩⟩⟩
theorem pii_62 : piOk (8, 42, 187, 0, 0) := ⟨(tm2 (i := 175) rfl rfl), fun _ => ⟨by decide, by decide +kernel, fun _ => ws_187, wi_187, fun h => absurd h (by decide)⟩⟩
theorem pii_63 : piOk (8, 46, 190, 0, 1) := ⟨(tm2 (i := 176) rfl rfl), fun _ => ⟨by decide, by decide +kernel, fun _ => ws_190, wi_190, fun h => absurd h (by decide)⟩⟩
theorem pii_64 : piOk (8, 50, 193, 0, 2) := ⟨(tm2 (i := 178) rfl rfl), fun _ => ⟨by decide, by decide +kernel, fun _ => ws_193, wi_193, fun h => absurd h (by decide)⟩⟩
theorem pii_65 : piOk (8, 56, 108, 4, 1) := ⟨(tl3 (i := 95) rfl), fun _ => ⟨by decide, by decide +kernel, fun h => absurd h (by decide), wi_108, fun h => absurd h (by decide)⟩⟩
theorem pii_66 : piOk (8, 60, 14, 0, 0) := ⟨(tm3 (i := 201) rfl rfl), fun _ => ⟨by decide, by decide +kernel, fun _ => ws_14, wi_14, fun h => absurd h (by decide)⟩⟩
theorem pii_67 : piOk (9, 3, 0, 5, 0) := ⟨(tm2 (i := 19) rfl rfl), fun h => absurd h (by decide)⟩
theorem pii_68 : piOk (9, 11, 13, 3, 0) := ⟨(tl2 (i := 21) rfl), fun _ => ⟨by decide, by decide +kernel, fun h => absurd h (by decide), wi_13, fun _ => ⟨rfl, rfl⟩⟩⟩
theorem pii_69 : piOk (9, 28, 187, 0, 0) := ⟨(tm4 (i := 59) rfl rfl), fun _ => ⟨by decide, by decide +kernel, fun _ => ws_187, wi_187, fun h => absurd h (by decide)⟩⟩
theorem pii_70 : piOk (9, 34, 56, 0, 1) := ⟨(tm4 (i := 60) rfl rfl), fun _ => ⟨by decide, by decide +kernel, fun _ => ws_56, wi_56, fun h => absurd h (by decide)⟩⟩
theorem pii_71 : piOk (9, 46, 66, 0, 4) := ⟨(tm4 (i := 69) rfl rfl), fun _ => ⟨by decide, by decide +kernel, fun _ => ws_66, wi_66, fun h => absurd h (by decide)⟩⟩
theorem pii_72 : piOk (9, 50, 57, 0, 1) := ⟨(tm4 (i := 136) rfl rfl), fun _ => ⟨by decide, by decide +kernel, fun _ => ws_57, wi_57, fun h => absurd h (by decide)⟩⟩
theorem pii_73 : piOk (9, 60, 68, 0, 3) := ⟨(tm4 (i := 73) rfl rfl), fun _ => ⟨by decide, by decide +kernel, fun _ => ws_68, wi_68, fun h => absurd h (by decide)⟩⟩
theorem pii_74 : piOk (9, 64, 15, 0, 1) := ⟨(tm4 (i := 85) rfl rfl), fun _ => ⟨by decide, by decide +kernel, fun _ => ws_15, wi_15, fun h => absurd h (by decide)⟩⟩
theorem pii_75 : piOk (9, 68, 69, 0, 3) := ⟨(tm4 (i := 86) rfl rfl), fun _ => ⟨by decide, by decide +kernel, fun _ => ws_69, wi_69, fun h => absurd h (by decide)⟩⟩
theorem pii_76 : piOk (9, 71, 70, 0, 2) := ⟨(tm4 (i := 90) rfl rfl), fun _ => ⟨by decide, by decide +kernel, fun _ => ws_70, wi_70, fun h => absurd h (by decide)⟩⟩
theorem pii_77 : piOk (9, 75, 71, 0, 3) := ⟨(tm4 (i := 95) rfl rfl), fun _ => ⟨by decide, by decide +kernel, fun _ => ws_71, wi_71, fun h => absurd h (by decide)⟩⟩
theorem pii_78 : piOk (9, 78, 67, 0, 2) := ⟨(tm4 (i := 99) rfl rfl), fun _ => ⟨by decide, by decide +kernel, fun _ => ws_67, wi_67, fun h => absurd h (by decide)⟩⟩
theorem pii_79 : piOk (9, 82, 19, 0, 0) := ⟨(tm4 (i := 103) rfl rfl), fun _ => ⟨by decide, by decide +kernel, fun _ => ws_19, wi_19, fun h => absurd h (by decide)⟩⟩
theorem pii_80 : piOk (9, 85, 20, 0, 0) := ⟨(tm4 (i := 107) rfl rfl), fun _ => ⟨by decide, by decide +kernel, fun _ => ws_20, wi_20, fun h => absurd h (by decide)⟩⟩
theorem pii_81 : piOk (9, 88, 22, 0, 1) := ⟨(tm4 (i := 111) rfl rfl), fun _ => ⟨by decide, by decide +kernel, fun _ => ws_22, wi_22, fun h => absurd h (by decide)⟩⟩
theorem pii_82 : piOk (9, 91, 21, 0, 0) := ⟨(tm4 (i := 116) rfl rfl), fun _ => ⟨by decide, by decide +kernel, fun _ => ws_21, wi_21, fun h => absurd h (by decide)⟩⟩
theorem pii_83 : piOk (9, 94, 23, 0, 1) := ⟨(tm4 (i := 120) rfl rfl), fun _ => ⟨by decide, by decide +kernel, fun _ => ws_23, wi_23, fun h => absurd h (by decide)⟩⟩
theorem pii_84 : piOk (9, 97, 24, 0, 0) := ⟨(tm4 (i := 124) rfl rfl), fun _ => ⟨by decide, by decide +kernel, fun _ => ws_24, wi_24, fun h => absurd h (by decide)⟩⟩
theorem pii_85 : piOk (9, 100, 26, 0, 1) := ⟨(tm4 (i := 132) rfl rfl), fun _ => ⟨by decide, by decide +kernel, fun _ => ws_26, wi_26, fun h => absurd h (by decide)⟩⟩
theorem pii_86 : piOk (9, 103, 16, 0, 1) := ⟨(tm4 (i := 80) rfl rfl), fun _ => ⟨by decide, by decide +kernel, fun _ => ws_16, wi_16, fun h => absurd h (by decide)⟩⟩
theorem pii_87 : piOk (9, 110, 190, 0, 1) := ⟨(tm4 (i := 77) rfl rfl), fun _ => ⟨by decide, by decide +kernel, fun _ => ws_190, wi_190, fun h => absurd h (by decide)⟩⟩
theorem pii_88 : piOk (9, 123, 14, 0, 0) := ⟨(tm4 (i := 79) rfl rfl), fun _ => ⟨by decide, by decide +kernel, fun _ => ws_14, wi_14, fun h => absurd h (by decide)⟩⟩
theorem pii_89 : piOk (9, 136, 17, 0, 1) := ⟨(tm4 (i := 94) rfl rfl), fun _ => ⟨by decide, by decide +kernel, fun _ => ws_17, wi_17, fun h => absurd h (by decide)⟩⟩
theorem pii_90 : piOk (10, 3, 0, 5, 0) := ⟨(tm1 (i := 37) rfl rfl), fun h => absurd h (by decide)⟩
theorem pii_91 : piOk (10, 11, 184, 2, 0) := ⟨(tm1 (i := 40) rfl rfl), fun _ => ⟨by decide, by decide +kernel, fun h => absurd h (by decide), wi_184, fun _ => ⟨rfl, rfl⟩⟩⟩
theorem pii_92 : piOk (10, 18, 73, 0, 0) := ⟨(tm1 (i := 64) rfl rfl), fun _ => ⟨by decide, by decide +kernel, fun _ => ws_73, wi_73, fun h => absurd h (by decide)⟩⟩
theorem pii_93 : piOk (10, 21, 196, 0, 0) := ⟨(tm1 (i := 68) rfl rfl), fun _ => ⟨by decide, by decide +kernel, fun _ => ws_196, wi_196, fun h => absurd h (by decide)⟩⟩
theorem pii_94 : piOk (10, 26, 59, 2, 4) := ⟨(tm1 (i := 74) rfl rfl), fun _ => ⟨by decide, by decide +kernel, fun h => absurd h (by decide), wi_59, fun _ => ⟨rfl, rfl⟩⟩⟩
theorem pii_95 : piOk (10, 29, 192, 0, 1) := ⟨(tm1 (i := 146) rfl rfl), fun _ => ⟨by decide, by decide +kernel, fun _ => ws_192, wi_192, fun h => absurd h (by decide)⟩⟩
theorem pii_96 : piOk (10, 33, 187, 0, 0) := ⟨(tm2 (i := 136) rfl rfl), fun _ => ⟨by decide, by decide +kernel, fun _ => ws_187, wi_187, fun h => absurd h (by decide)⟩⟩
theorem pii_97 : piOk (10, 37, 190, 0, 1) := ⟨(tm2 (i := 144) rfl rfl), fun _ => ⟨by decide, by decide +kernel, fun _ => ws_190, wi_190, fun h => absurd h (by decide)⟩⟩
theorem pii_98 : piOk (10, 48, 76, 0, 1) := ⟨(tm2 (i := 170) rfl rfl), fun _ => ⟨by decide, by decide +kernel, fun _ => ws_76, wi_76, fun h => absurd h (by decide)⟩⟩
theorem pii_99 : piOk (10, 52, 60, 0, 1) := ⟨(tm2 (i := 171) rfl rfl), fun _ => ⟨by decide, by decide +kernel, fun _ => ws_60, wi_60, fun h => absurd h (by decide)⟩⟩
theorem pii_100 : piOk (10, 66, 18, 0, 1) := ⟨(tm2 (i := 230) rfl rfl), fun _ => ⟨by decide, by decide +kernel, fun _ => ws_18, wi_18, fun h => absurd h (by decide)⟩⟩
theorem pii_101 : piOk (10, 72, 17, 0, 1) := ⟨(tm2 (i := 234) rfl rfl), fun _ => ⟨by decide, by decide +kernel, fun _ => ws_17, wi_17, fun h => absurd h (by decide)⟩⟩
theorem pii_102 : piOk (11, 3, 0, 5, 0) := ⟨(tm1 (i := 29) rfl rfl), fun h => absurd h (by decide)⟩
theorem pii_103 : piOk (11, 11, 72, 2, 0) := ⟨(tm1 (i := 34) rfl rfl), fun _ => ⟨by decide, by decide +kernel, fun h => absurd h (by decide), wi_72, fun _ => ⟨rfl, rfl⟩⟩⟩
theorem pii_104 : piOk (11, 18, 13, 3, 0) := ⟨(tl1 (i := 212) rfl), fun _ => ⟨by decide, by decide +kernel, fun h => absurd h (by decide), wi_13, fun _ => ⟨rfl, rfl⟩⟩⟩
theorem pii_105 : piOk (11, 25, 29, 3, 0) := ⟨(tl1 (i := 215) rfl), fun _ => ⟨by decide, by decide +kernel, fun h => absurd h (by decide), wi_29, fun _ => ⟨rfl, rfl⟩⟩⟩
theorem pii_106 : piOk (11, 32, 5, 3, 0) := ⟨(tl1 (i := 228) rfl), fun _ => ⟨by decide, by decide +kernel, fun h => absurd h (by decide), wi_5, fun _ => ⟨rfl, rfl⟩⟩⟩
theorem pii_107 : piOk (11, 39, 64, 3, 0) := ⟨(tl2 (i := 16) rfl), fun _ => ⟨by decide, by decide +kernel, fun h => absurd h (by decide), wi_64, fun _ => ⟨rfl, rfl⟩⟩⟩
theorem pii_108 : piOk (11, 46, 51, 3, 0) := ⟨(tl2 (i := 31) rfl), fun _ => ⟨by decide, by decide +kernel, fun h => absurd h (by decide), wi_51, fun _ => ⟨rfl, rfl⟩⟩⟩
theorem pii_109 : piOk (11, 53, 40, 3, 0) := ⟨(tl2 (i := 60) rfl), fun _ => ⟨by decide, by decide +kernel, fun h => absurd h (by decide), wi_40, fun _ => ⟨rfl, rfl⟩⟩⟩
theorem pii_110 : piOk (11, 60, 55, 2, 0) := ⟨(tm2 (i := 82) rfl rfl), fun _ => ⟨by decide, by decide +kernel, fun h => absurd h (by decide), wi_55, fun _ => ⟨rfl, rfl⟩⟩⟩
theorem pii_111 : piOk (11, 69, 75, 0, 1) := ⟨(tm2 (i := 132) rfl rfl), fun _ => ⟨by decide, by decide +kernel, fun _ => ws_75, wi_75, fun h => absurd h (by decide)⟩⟩
theorem pii_112 : piOk (11, 73, 76, 0, 1) := ⟨(tm2 (i := 140) rfl rfl), fun _ => ⟨by decide, by decide +kernel, fun _ => ws_76, wi_76, fun h => absurd h (by decide)⟩⟩
theorem pii_113 : piOk (11, 83, 77, 0, 2) := ⟨(tm2 (i := 158) rfl rfl), fun _ => ⟨by decide, by decide +kernel, fun _ => ws_77, wi_77, fun h => absurd h (by decide)⟩⟩
theorem pii_114 : piOk (11, 87, 74, 0, 0) := ⟨(tm2 (i := 162) rfl rfl), fun _ => ⟨by decide, by decide +kernel, fun _ => ws_74, wi_74, fun h => absurd h (by decide)⟩⟩
theorem pii_115 : piOk (11, 90, 78, 0, 3) := ⟨(tm2 (i := 166) rfl rfl), fun _ => ⟨by decide, by decide +kernel, fun _ => ws_78, wi_78, fun h => absurd h (by decide)⟩⟩
theorem pii_116 : piOk (11, 103, 15, 0, 1) := ⟨(tm2 (i := 195) rfl rfl), fun _ => ⟨by decide, by decide +kernel, fun _ => ws_15, wi_15, fun h => absurd h (by decide)⟩⟩
theorem pii_117 : piOk (11, 106, 110, 0, 2) := ⟨(tm2 (i := 203) rfl rfl), fun _ => ⟨by decide, by decide +kernel, fun _ => ws_110, wi_110, fun h => absurd h (by decide)⟩⟩
theorem pii_118 : piOk (11, 114, 17, 0, 1) := ⟨(tm2 (i := 214) rfl rfl), fun _ => ⟨by decide, by decide +kernel, fun _ => ws_17, wi_17, fun h => absurd h (by decide)⟩⟩
theorem pii_119 : piOk (11, 118, 107, 1, 1) := ⟨(tm2 (i := 211) rfl rfl), fun _ => ⟨by decide, by decide +kernel, fun h => absurd h (by decide), wi_107, fun h => absurd h (by decide)⟩⟩
theorem pii_120 : piOk (11, 121, 79, 0, 2) := ⟨(tm2 (i := 226) rfl rfl), fun _ => ⟨by decide, by decide +kernel, fun _ => ws_79, wi_79, fun h => absurd h (by decide)⟩⟩
theorem pii_121 : piOk (11, 124, 109, 0, 2) := ⟨(tm2 (i := 207) rfl rfl), fun _ => ⟨by decide, by decide +kernel, fun _ => ws_109, wi_109, fun h => absurd h (by decide)⟩⟩
theorem pii_122 : piOk (11, 131, 30, 0, 0) := ⟨(tm3 (i := 7) rfl rfl), fun _ => ⟨by decide, by decide +kernel, fun _ => ws_30, wi_30, fun h => absurd h (by decide)⟩⟩
theorem pii_123 : piOk (11, 132, 33, 0, 0) := ⟨(tm3 (i := 12) rfl rfl), fun _ => ⟨by decide, by decide +kernel, fun _ => ws_33, wi_33, fun h => absurd h (by decide)⟩⟩
theorem pii_124 : piOk (11, 134, 31, 0, 1) := ⟨(tm3 (i := 71) rfl rfl), fun _ => ⟨by decide, by decide +kernel, fun _ => ws_31, wi_31, fun h => absurd h (by decide)⟩⟩
theorem pii_125 : piOk (11, 135, 32, 0, 1) := ⟨(tm3 (i := 75) rfl rfl), fun _ => ⟨by decide, by decide +kernel, fun _ => ws_32, wi_32, fun h => absurd h (by decide)⟩⟩
theorem pii_126 : piOk (11, 138, 1, 0, 1) := ⟨(tm3 (i := 80) rfl rfl), fun _ => ⟨by decide, by decide +kernel, fun _ => ws_1, wi_1, fun h => absurd h (by decide)⟩⟩
theorem pii_127 : piOk (11, 143, 37, 0, 2) := ⟨(tm3 (i := 87) rfl rfl), fun _ => ⟨by decide, by decide +kernel, fun _ => ws_37, wi_37, fun h => absurd h (by decide)⟩⟩
theorem pii_128 : piOk (11, 151, 187, 0, 0) := ⟨(tm3 (i := 103) rfl rfl), fun _ => ⟨by decide, by decide +kernel, fun _ => ws_187, wi_187, fun h => absurd h (by decide)⟩⟩
theorem pii_129 : piOk (11, 154, 192, 0, 1) := ⟨(tm3 (i := 104) rfl rfl), fun _ => ⟨by decide, by decide +kernel, fun _ => ws_192, wi_192, fun h => absurd h (by decide)⟩⟩
theorem pii_130 : piOk (11, 157, 35, 0, 0) := ⟨(tm3 (i := 105) rfl rfl), fun _ => ⟨by decide, by decide +kernel, fun _ => ws_35, wi_35, fun h => absurd h (by decide)⟩⟩
theorem pii_131 : piOk (11, 160, 38, 0, 2) := ⟨(tm3 (i := 114) rfl rfl), fun _ => ⟨by decide, by decide +kernel, fun _ => ws_38, wi_38, fun h => absurd h (by decide)⟩⟩
theorem pii_132 : piOk (11, 166, 61, 0, 1) := ⟨(tm3 (i := 119) rfl rfl), fun _ => ⟨by decide, by decide +kernel, fun _ => ws_61, wi_61, fun h => absurd h (by decide)⟩⟩
theorem pii_133 : piOk (11, 170, 2, 0, 2) := ⟨(tm3 (i := 127) rfl rfl), fun _ => ⟨by decide, by decide +kernel, fun _ => ws_2, wi_2, fun h => absurd h (by decide)⟩⟩
theorem pii_134 : piOk (11, 173, 3, 0, 0) := ⟨(tm3 (i := 135) rfl rfl), fun _ => ⟨by decide, by decide +kernel, fun _ => ws_3, wi_3, fun h => absurd h (by decide)⟩⟩
theorem pii_135 : piOk (11, 183, 181, 1, 1) := ⟨(tm3 (i := 145) rfl rfl), fun _ => ⟨by decide, by decide +kernel, fun h => absurd h (by decide), wi_181, fun h => absurd h (by decide)⟩⟩
theorem pii_136 : piOk (11, 189, 108, 1, 1) := ⟨(tm3 (i := 155) rfl rfl), fun _ => ⟨by decide, by decide +kernel, fun h => absurd h (by decide), wi_108, fun h => absurd h (by decide)⟩⟩
theorem pii_137 : piOk (11, 193, 34, 0, 0) := ⟨(tm3 (i := 160) rfl rfl), fun _ => ⟨by decide, by decide +kernel, fun _ => ws_34, wi_34, fun h => absurd h (by decide)⟩⟩
theorem pii_138 : piOk (11, 197, 62, 0, 0) := ⟨(tm3 (i := 164) rfl rfl), fun _ => ⟨by decide, by decide +kernel, fun _ => ws_62, wi_62, fun h => absurd h (by decide)⟩⟩
theorem pii_139 : piOk (11, 200, 36, 0, 1) := ⟨(tm3 (i := 165) rfl rfl), fun _ => ⟨by decide, by decide +kernel, fun _ => ws_36, wi_36, fun h => absurd h (by decide)⟩⟩
theorem pii_140 : piOk (11, 207, 53, 0, 0) := ⟨(tm3 (i := 166) rfl rfl), fun _ => ⟨by decide, by decide +kernel, fun _ => ws_53, wi_53, fun h => absurd h (by decide)⟩⟩
theorem pii_141 : piOk (11, 210, 39, 0, 1) := ⟨(tm3 (i := 170) rfl rfl), fun _ => ⟨by decide, by decide +kernel, fun _ => ws_39, wi_39, fun h => absurd h (by decide)⟩⟩
theorem pii_142 : piOk (11, 213, 111, 0, 2) := ⟨(tm3 (i := 174) rfl rfl), fun _ => ⟨by decide, by decide +kernel, fun _ => ws_111, wi_111, fun h => absurd h (by decide)⟩⟩
theorem pii_143 : piOk (11, 224, 41, 0, 2) := ⟨(tm3 (i := 178) rfl rfl), fun _ => ⟨by decide, by decide +kernel, fun _ => ws_41, wi_41, fun h => absurd h (by decide)⟩⟩
theorem pii_144 : piOk (11, 232, 50, 0, 1) := ⟨(tm3 (i := 210) rfl rfl), fun _ => ⟨by decide, by decide +kernel, fun _ => ws_50, wi_50, fun h => absurd h (by decide)⟩⟩
theorem pii_145 : piOk (11, 236, 47, 0, 0) := ⟨(tm4 (i := 173) rfl rfl), fun _ => ⟨by decide, by decide +kernel, fun _ => ws_47, wi_47, fun h => absurd h (by decide)⟩⟩
theorem pii_146 : piOk (11, 239, 65, 0, 3) := ⟨(tm4 (i := 55) rfl rfl), fun _ => ⟨by decide, by decide +kernel, fun _ => ws_65, wi_65, fun h => absurd h (by decide)⟩⟩
theorem pii_147 : piOk (11, 243, 4, 0, 2) := ⟨(tm4 (i := 137) rfl rfl), fun _ => ⟨by decide, by decide +kernel, fun _ => ws_4, wi_4, fun h => absurd h (by decide)⟩⟩
theorem pii_148 : piOk (11, 247, 80, 0, 2) := ⟨(tm4 (i := 178) rfl rfl), fun _ => ⟨by decide, by decide +kernel, fun _ => ws_80, wi_80, fun h => absurd h (by decide)⟩⟩
theorem pii_149 : piOk (11, 253, 11, 0, 0) := ⟨(tm4 (i := 186) rfl rfl), fun _ => ⟨by decide, by decide +kernel, fun _ => ws_11, wi_11, fun h => absurd h (by decide)⟩⟩
theorem pii_150 : piOk (11, 261, 190, 0, 1) := ⟨(tm4 (i := 192) rfl rfl), fun _ => ⟨by decide, by decide +kernel, fun _ => ws_190, wi_190, fun h => absurd h (by decide)⟩⟩
theorem pii_151 : piOk (11, 272, 58, 0, 0) := ⟨(tm4 (i := 194) rfl rfl), fun _ => ⟨by decide, by decide +kernel, fun _ => ws_58, wi_58, fun h => absurd h (by decide)⟩⟩
theorem pii_152 : piOk (11, 281, 12, 0, 0) := ⟨(tm4 (i := 199) rfl rfl), fun _ => ⟨by decide, by decide +kernel, fun _ => ws_12, wi_12, fun h => absurd h (by decide)⟩⟩
theorem pii_153 : piOk (11, 294, 73, 0, 0) := ⟨(tm4 (i := 212) rfl rfl), fun _ => ⟨by decide, by decide +kernel, fun _ => ws_73, wi_73, fun h => absurd h (by decide)⟩⟩
theorem pii_154 : piOk (11, 300, 196, 0, 0) := ⟨(tm4 (i := 213) rfl rfl), fun _ => ⟨by decide, by decide +kernel, fun _ => ws_196, wi_196, fun h => absurd h (by decide)⟩⟩
theorem pii_155 : piOk (11, 303, 6, 0, 0) := ⟨(tm4 (i := 214) rfl rfl), fun _ => ⟨by decide, by decide +kernel, fun _ => ws_6, wi_6, fun h => absurd h (by decide)⟩⟩
theorem pii_156 : piOk (11, 304, 52, 0, 0) := ⟨(tm4 (i := 219) rfl rfl), fun _ => ⟨by decide, by decide +kernel, fun _ => ws_52, wi_52, fun h => absurd h (by decide)⟩⟩
theorem pii_157 : piOk (11, 305, 7, 0, 1) := ⟨(tm3 (i := 222) rfl rfl), fun _ => ⟨by decide, by decide +kernel, fun _ => ws_7, wi_7, fun h => absurd h (by decide)⟩⟩
theorem pii_158 : piOk (11, 308, 9, 0, 1) := ⟨(tm3 (i := 236) rfl rfl), fun _ => ⟨by decide, by decide +kernel, fun _ => ws_9, wi_9, fun h => absurd h (by decide)⟩⟩
theorem pii_159 : piOk (11, 312, 8, 0, 1) := ⟨(tm4 (i := 50) rfl rfl), fun _ => ⟨by decide, by decide +kernel, fun _ => ws_8, wi_8, fun h => absurd h (by decide)⟩⟩
theorem pii_160 : piOk (11, 316, 46, 0, 1) := ⟨(tm4 (i := 142) rfl rfl), fun _ => ⟨by decide, by decide +kernel, fun _ => ws_46, wi_46, fun h => absurd h (by decide)⟩⟩
theorem pii_161 : piOk (11, 319, 54, 0, 4) := ⟨(tm4 (i := 143) rfl rfl), fun _ => ⟨by decide, by decide +kernel, fun _ => ws_54, wi_54, fun h => absurd h (by decide)⟩⟩
theorem pii_162 : piOk (11, 322, 10, 0, 1) := ⟨(tm4 (i := 147) rfl rfl), fun _ => ⟨by decide, by decide +kernel, fun _ => ws_10, wi_10, fun h => absurd h (by decide)⟩⟩
theorem pii_163 : piOk (12, 1, 0, 5, 0) := ⟨(tm4 (i := 228) rfl rfl), fun h => absurd h (by decide)⟩
theorem pii_164 : piOk (12, 140, 113, 1, 3) := ⟨(tm5 (i := 163) rfl rfl), fun _ => ⟨by decide, by decide +kernel, fun h => absurd h (by decide), wi_113, fun h => absurd h (by decide)⟩⟩
theorem pii_165 : piOk (12, 147, 114, 0, 1) := ⟨(tm5 (i := 159) rfl rfl), fun _ => ⟨by decide, by decide +kernel, fun _ => ws_114, wi_114, fun h => absurd h (by decide)⟩⟩
theorem pii_166 : piOk (12, 156, 119, 0, 2) := ⟨(tm5 (i := 179) rfl rfl), fun _ => ⟨by decide, by decide +kernel, fun _ => ws_119, wi_119, fun h => absurd h (by decide)⟩⟩
theorem pii_167 : piOk (12, 160, 120, 0, 1) := ⟨(tm5 (i := 183) rfl rfl), fun _ => ⟨by decide, by decide +kernel, fun _ => ws_120, wi_120, fun h => absurd h (by decide)⟩⟩
theorem pii_168 : piOk (12, 163, 123, 0, 3) := ⟨(tm5 (i := 195) rfl rfl), fun _ => ⟨by decide, by decide +kernel, fun _ => ws_123, wi_123, fun h => absurd h (by decide)⟩⟩
theorem pii_169 : piOk (12, 166, 124, 0, 3) := ⟨(tm5 (i := 199) rfl rfl), fun _ => ⟨by decide, by decide +kernel, fun _ => ws_124, wi_124, fun h => absurd h (by decide)⟩⟩
theorem pii_170 : piOk (12, 170, 129, 0, 2) := ⟨(tm5 (i := 231) rfl rfl), fun _ => ⟨by decide, by decide +kernel, fun _ => ws_129, wi_129, fun h => absurd h (by decide)⟩⟩
theorem pii_171 : piOk (12, 173, 130, 0, 1) := ⟨(tm5 (i := 227) rfl rfl), fun _ => ⟨by decide, by decide +kernel, fun _ => ws_130, wi_130, fun h => absurd h (by decide)⟩⟩
theorem pii_172 : piOk (12, 177, 115, 0, 1) := ⟨(tm5 (i := 219) rfl rfl), fun _ => ⟨by decide, by decide +kernel, fun _ => ws_115, wi_115, fun h => absurd h (by decide)⟩⟩
theorem pii_173 : piOk (12, 180, 133, 0, 3) := ⟨(tm5 (i := 223) rfl rfl), fun _ => ⟨by decide, by decide +kernel, fun _ => ws_133, wi_133, fun h => absurd h (by decide)⟩⟩
theorem pii_174 : piOk (12, 184, 131, 0, 1) := ⟨(tm5 (i := 235) rfl rfl), fun _ => ⟨by decide, by decide +kernel, fun _ => ws_131, wi_131, fun h => absurd h (by decide)⟩⟩
theorem pii_175 : piOk (12, 190, 139, 0, 1) := ⟨(tm6 (i := 31) rfl rfl), fun _ => ⟨by decide, by decide +kernel, fun _ => ws_139, wi_139, fun h => absurd h (by decide)⟩⟩
theorem pii_176 : piOk (12, 196, 141, 0, 2) := ⟨(tm6 (i := 39) rfl rfl), fun _ => ⟨by decide, by decide +kernel, fun _ => ws_141, wi_141, fun h => absurd h (by decide)⟩⟩
theorem pii_177 : piOk (12, 200, 140, 0, 1) := ⟨(tm6 (i := 27) rfl rfl), fun _ => ⟨by decide, by decide +kernel, fun _ => ws_140, wi_140, fun h => absurd h (by decide)⟩⟩
theorem pii_178 : piOk (12, 203, 142, 0, 2) := ⟨(tm6 (i := 35) rfl rfl), fun _ => ⟨by decide, by decide +kernel, fun _ => ws_142, wi_142, fun h => absurd h (by decide)⟩⟩
theorem pii_179 : piOk (12, 210, 143, 0, 2) := ⟨(tm6 (i := 23) rfl rfl), fun _ => ⟨by decide, by decide +kernel, fun _ => ws_143, wi_143, fun h => absurd h (by decide)⟩⟩
theorem pii_180 : piOk (12, 213, 144, 1, 3) := ⟨(tm6 (i := 43) rfl rfl), fun _ => ⟨by decide, by decide +kernel, fun h => absurd h (by decide), wi_144, fun h => absurd h (by decide)⟩⟩
theorem pii_181 : piOk (12, 217, 146, 0, 5) := ⟨(tm6 (i := 56) rfl rfl), fun _ => ⟨by decide, by decide +kernel, fun _ => ws_146, wi_146, fun h => absurd h (by decide)⟩⟩
theorem pii_182 : piOk (12, 221, 147, 0, 2) := ⟨(tm6 (i := 52) rfl rfl), fun _ => ⟨by decide, by decide +kernel, fun _ => ws_147, wi_147, fun h => absurd h (by decide)⟩⟩
theorem pii_183 : piOk (12, 231, 150, 0, 1) := ⟨(tm6 (i := 96) rfl rfl), fun _ => ⟨by decide, by decide +kernel, fun _ => ws_150, wi_150, fun h => absurd h (by decide)⟩⟩
theorem pii_184 : piOk (12, 234, 155, 0, 0) := ⟨(tm6 (i := 100) rfl rfl), fun _ => ⟨by decide, by decide +kernel, fun _ => ws_155, wi_155, fun h => absurd h (by decide)⟩⟩
theorem pii_185 : piOk (12, 237, 156, 0, 0) := ⟨(tm6 (i := 104) rfl rfl), fun _ => ⟨by decide, by decide +kernel, fun _ => ws_156, wi_156, fun h => absurd h (by decide)⟩⟩
theorem pii_186 : piOk (12, 240, 151, 0, 1) := ⟨(tm6 (i := 108) rfl rfl), fun _ => ⟨by decide, by decide +kernel, fun _ => ws_151, wi_151, fun h => absurd h (by decide)⟩⟩
theorem pii_187 : piOk (12, 243, 159, 0, 0) := ⟨(tm6 (i := 112) rfl rfl), fun _ => ⟨by decide, by decide +kernel, fun _ => ws_159, wi_159, fun h => absurd h (by decide)⟩⟩
theorem pii_188 : piOk (12, 247, 157, 0, 0) := ⟨(tm6 (i := 116) rfl rfl), fun _ => ⟨by decide, by decide +kernel, fun _ => ws_157, wi_157, fun h => absurd h (by decide)⟩⟩
theorem pii_189 : piOk (12, 250, 160, 0, 1) := ⟨(tm6 (i := 120) rfl rfl), fun _ => ⟨by decide, by decide +kernel, fun _ => ws_160, wi_160, fun h => absurd h (by decide)⟩⟩
theorem pii_190 : piOk (12, 253, 158, 0, 0) := ⟨(tm6 (i := 124) rfl rfl), fun _ => ⟨by decide, by decide +kernel, fun _ => ws_158, wi_158, fun h => absurd h (by decide)⟩⟩
theorem pii_191 : piOk (12, 256, 154, 0, 1) := ⟨(tm6 (i := 88) rfl rfl), fun _ => ⟨by decide, by decide +kernel, fun _ => ws_154, wi_154, fun h => absurd h (by decide)⟩⟩
theorem pii_192 : piOk (12, 259, 161, 0, 2) := ⟨(tm6 (i := 92) rfl rfl), fun _ => ⟨by decide, by decide +kernel, fun _ => ws_161, wi_161, fun h => absurd h (by decide)⟩⟩
theorem pii_193 : piOk (12, 262, 152, 0, 2) := ⟨(tm6 (i := 128) rfl rfl), fun _ => ⟨by decide, by decide +kernel, fun _ => ws_152, wi_152, fun h => absurd h (by decide)⟩⟩
theorem pii_194 : piOk (12, 265, 153, 0, 2) := ⟨(tm6 (i := 132) rfl rfl), fun _ => ⟨by decide, by decide +kernel, fun _ => ws_153, wi_153, fun h => absurd h (by decide)⟩⟩
theorem pii_195 : piOk (12, 271, 164, 0, 0) := ⟨(tm6 (i := 144) rfl rfl), fun _ => ⟨by decide, by decide +kernel, fun _ => ws_164, wi_164, fun h => absurd h (by decide)⟩⟩
theorem pii_196 : piOk (12, 274, 165, 0, 1) := ⟨(tm6 (i := 148) rfl rfl), fun _ => ⟨by decide, by decide +kernel, fun _ => ws_165, wi_165, fun h => absurd h (by decide)⟩⟩
theorem pii_197 : piOk (12, 280, 166, 0, 1) := ⟨(tm6 (i := 140) rfl rfl), fun _ => ⟨by decide, by decide +kernel, fun _ => ws_166, wi_166, fun h => absurd h (by decide)⟩⟩
theorem pii_198 : piOk (12, 287, 149, 0, 2) := ⟨(tm6 (i := 76) rfl rfl), fun _ => ⟨by decide, by decide +kernel, fun _ => ws_149, wi_149, fun h => absurd h (by decide)⟩⟩
theorem pii_199 : piOk (12, 290, 167, 0, 0) := ⟨(tm6 (i := 80) rfl rfl), fun _ => ⟨by decide, by decide +kernel, fun _ => ws_167, wi_167, fun h => absurd h (by decide)⟩⟩
theorem pii_200 : piOk (12, 293, 162, 0, 2) := ⟨(tm6 (i := 84) rfl rfl), fun _ => ⟨by decide, by decide +kernel, fun _ => ws_162, wi_162, fun h => absurd h (by decide)⟩⟩
theorem pii_201 : piOk (12, 296, 168, 0, 1) := ⟨(tm6 (i := 136) rfl rfl), fun _ => ⟨by decide, by decide +kernel, fun _ => ws_168, wi_168, fun h => absurd h (by decide)⟩⟩
theorem pii_202 : piOk (12, 302, 169, 0, 1) := ⟨(tm6 (i := 152) rfl rfl), fun _ => ⟨by decide, by decide +kernel, fun _ => ws_169, wi_169, fun h => absurd h (by decide)⟩⟩
theorem pii_203 : piOk (12, 308, 163, 0, 2) := ⟨(tm6 (i := 156) rfl rfl), fun _ => ⟨by decide, by decide +kernel, fun _ => ws_163, wi_163, fun h => absurd h (by decide)⟩⟩
theorem pii_204 : piOk (12, 314, 170, 0, 1) := ⟨(tm6 (i := 64) rfl rfl), fun _ => ⟨by decide, by decide +kernel, fun _ => ws_170, wi_170, fun h => absurd h (by decide)⟩⟩
theorem pii_205 : piOk (12, 317, 171, 0, 0) := ⟨(tm6 (i := 68) rfl rfl), fun _ => ⟨by decide, by decide +kernel, fun _ => ws_171, wi_171, fun h => absurd h (by decide)⟩⟩
theorem pii_206 : piOk (12, 320, 172, 0, 2) := ⟨(tm6 (i := 72) rfl rfl), fun _ => ⟨by decide, by decide +kernel, fun _ => ws_172, wi_172, fun h => absurd h (by decide)⟩⟩
theorem pii_207 : piOk (12, 325, 178, 0, 0) := ⟨(tm6 (i := 189) rfl rfl), fun _ => ⟨by decide, by decide +kernel, fun _ => ws_178, wi_178, fun h => absurd h (by decide)⟩⟩
theorem pii_208 : piOk (13, 1, 183, 2, 0) := ⟨(tm1 (i := 43) rfl rfl), fun _ => ⟨by decide, by decide +kernel, fun h => absurd h (by decide), wi_183, fun _ => ⟨rfl, rfl⟩⟩⟩
theorem pii_209 : piOk (13, 66, 198, 1, 2) := ⟨(tm1 (i := 172) rfl rfl), fun _ => ⟨by decide, by decide +kernel, fun h => absurd h (by decide), wi_198, fun h => absurd h (by decide)⟩⟩
theorem pii_210 : piOk (13, 69, 185, 0, 1) := ⟨(tm1 (i := 158) rfl rfl), fun _ => ⟨by decide, by decide +kernel, fun _ => ws_185, wi_185, fun h => absurd h (by decide)⟩⟩
theorem pii_211 : piOk (13, 73, 201, 1, 3) := ⟨(tm1 (i := 162) rfl rfl), fun _ => ⟨by decide, by decide +kernel, fun h => absurd h (by decide), wi_201, fun h => absurd h (by decide)⟩⟩
theorem pii_212 : piOk (13, 79, 0, 8, 2) := ⟨(tm1 (i := 205) rfl rfl), fun h => absurd h (by decide)⟩
theorem pii_213 : piOk (13, 112, 0, 6, 5) := ⟨(tm2 (i := 186) rfl rfl), fun h => absurd h (by decide)⟩
theorem pii_214 : piOk (13, 118, 200, 1, 2) := ⟨(tm2 (i := 148) rfl rfl), fun _ => ⟨by decide, by decide +kernel, fun h => absurd h (by decide), wi_200, fun h => absurd h (by decide)⟩⟩
theorem pii_215 : piOk (13, 123, 189, 0, 1) := ⟨(tm2 (i := 154) rfl rfl), fun _ => ⟨by decide, by decide +kernel, fun _ => ws_189, wi_189, fun h => absurd h (by decide)⟩⟩
theorem pii_216 : piOk (13, 129, 186, 0, 0) := ⟨(tm1 (i := 154) rfl rfl), fun _ => ⟨by decide, by decide +kernel, fun _ => ws_186, wi_186, fun h => absurd h (by decide)⟩⟩
theorem pii_217 : piOk (13, 131, 191, 0, 3) := ⟨(tm1 (i := 150) rfl rfl), fun _ => ⟨by decide, by decide +kernel, fun _ => ws_191, wi_191, fun h => absurd h (by decide)⟩⟩
theorem pii_218 : piOk (13, 135, 197, 0, 1) := ⟨(tm2 (i := 182) rfl rfl), fun _ => ⟨by decide, by decide +kernel, fun _ => ws_197, wi_197, fun h => absurd h (by decide)⟩⟩
theorem pii_219 : piOk (13, 144, 195, 0, 2) := ⟨(tm4 (i := 37) rfl rfl), fun _ => ⟨by decide, by decide +kernel, fun _ => ws_195, wi_195, fun h => absurd h (by decide)⟩⟩
theorem pii_220 : piOk (14, 1, 182, 2, 0) := ⟨(tm1 (i := 46) rfl rfl), fun _ => ⟨by decide, by decide +kernel, fun h => absurd h (by decide), wi_182, fun _ => ⟨rfl, rfl⟩⟩⟩
theorem pii_221 : piOk (15, 1, 0, 5, 0) := ⟨(tm1 (i := 49) rfl rfl), fun h => absurd h (by decide)⟩
theorem pii_222 : piOk (16, 86, 0, 7, 0) := ⟨(tm1 (i := 175) rfl rfl), fun h => absurd h (by decide)⟩
theorem pii_223 : piOk (16, 150, 0, 6, 5) := ⟨(tm1 (i := 202) rfl rfl), fun h => absurd h (by decide)⟩
theorem pii_224 : piOk (16, 300, 199, 1, 3) := ⟨(tm1 (i := 193) rfl rfl), fun _ => ⟨by decide, by decide +kernel, fun h => absurd h (by decide), wi_199, fun h => absurd h (by decide)⟩⟩
theorem pii_225 : piOk (16, 304, 0, 9, 2) := ⟨(tm1 (i := 199) rfl rfl), fun h => absurd h (by decide)⟩
theorem pii_226 : piOk (17, 105, 203, 1, 3) := ⟨(tm2 (i := 151) rfl rfl), fun _ => ⟨by decide, by decide +kernel, fun h => absurd h (by decide), wi_203, fun h => absurd h (by decide)⟩⟩
theorem pii_227 : piOk (19, 194, 0, 8, 2) := ⟨(tm1 (i := 165) rfl rfl), fun h => absurd h (by decide)⟩
theorem pii_228 : piOk (19, 201, 202, 1, 2) := ⟨(tm1 (i := 169) rfl rfl), fun _ => ⟨by decide, by decide +kernel, fun h => absurd h (by decide), wi_202, fun h => absurd h (by decide)⟩⟩
theorem pii_229 : piOk (24, 9, 81, 2, 0) := ⟨(tm1 (i := 26) rfl rfl), fun _ => ⟨by decide, by decide +kernel, fun h => absurd h (by decide), wi_81, fun _ => ⟨rfl, rfl⟩⟩⟩
theorem pii_230 : piOk (24, 12, 112, 2, 0) := ⟨(tm4 (i := 225) rfl rfl), fun _ => ⟨by decide, by decide +kernel, fun h => absurd h (by decide), wi_112, fun _ => ⟨rfl, rfl⟩⟩⟩
theorem pii_231 : piOk (24, 13, 82, 0, 3) := ⟨(tm2 (i := 128) rfl rfl), fun _ => ⟨by decide, by decide +kernel, fun _ => ws_82, wi_82, fun h => absurd h (by decide)⟩⟩
theorem pii_232 : piOk (24, 17, 116, 0, 3) := ⟨(tm5 (i := 155) rfl rfl), fun _ => ⟨by decide, by decide +kernel, fun _ => ws_116, wi_116, fun h => absurd h (by decide)⟩⟩
theorem pii_233 : piOk (24, 18, 83, 0, 2) := ⟨(tm2 (i := 187) rfl rfl), fun _ => ⟨by decide, by decide +kernel, fun _ => ws_83, wi_83, fun h => absurd h (by decide)⟩⟩
theorem pii_234 : piOk (24, 22, 117, 0, 2) := ⟨(tm5 (i := 166) rfl rfl), fun _ => ⟨by decide, by decide +kernel, fun _ => ws_117, wi_117, fun h => absurd h (by decide)⟩⟩
theorem pii_235 : piOk (24, 25, 84, 0, 2) := ⟨(tm2 (i := 191) rfl rfl), fun _ => ⟨by decide, by decide +kernel, fun _ => ws_84, wi_84, fun h => absurd h (by decide)⟩⟩
theorem pii_236 : piOk (24, 29, 118, 0, 2) := ⟨(tm5 (i := 170) rfl rfl), fun _ => ⟨by decide, by decide +kernel, fun _ => ws_118, wi_118, fun h => absurd h (by decide)⟩⟩
theorem pii_237 : piOk (24, 30, 85, 0, 2) := ⟨(tm2 (i := 199) rfl rfl), fun _ => ⟨by decide, by decide +kernel, fun _ => ws_85, wi_85, fun h => absurd h (by decide)⟩⟩
theorem pii_238 : piOk (24, 33, 121, 0, 2) := ⟨(tm5 (i := 175) rfl rfl), fun _ => ⟨by decide, by decide +kernel, fun _ => ws_121, wi_121, fun h => absurd h (by decide)⟩⟩
theorem pii_239 : piOk (24, 34, 86, 0, 2) := ⟨(tm2 (i := 218) rfl rfl), fun _ => ⟨by decide, by decide +kernel, fun _ => ws_86, wi_86, fun h => absurd h (by decide)⟩⟩
theorem pii_240 : piOk (24, 37, 122, 0, 2) := ⟨(tm5 (i := 187) rfl rfl), fun _ => ⟨by decide, by decide +kernel, fun _ => ws_122, wi_122, fun h => absurd h (by decide)⟩⟩
theorem pii_241 : piOk (24, 38, 87, 0, 1) := ⟨(tm2 (i := 222) rfl rfl), fun _ => ⟨by decide, by decide +kernel, fun _ => ws_87, wi_87, fun h => absurd h (by decide)⟩⟩
theorem pii_242 : piOk (24, 42, 125, 0, 1) := ⟨(tm5 (i := 191) rfl rfl), fun _ => ⟨by decide, by decide +kernel, fun _ => ws_125, wi_125, fun h => absurd h (by decide)⟩⟩
theorem pii_243 : piOk (24, 43, 88, 0, 2) := ⟨(tm2 (i := 235) rfl rfl), fun _ => ⟨by decide, by decide +kernel, fun _ => ws_88, wi_88, fun h => absurd h (by decide)⟩⟩
theorem pii_244 : piOk (24, 46, 126, 0, 2) := ⟨(tm5 (i := 203) rfl rfl), fun _ => ⟨by decide, by decide +kernel, fun _ => ws_126, wi_126, fun h => absurd h (by decide)⟩⟩
theorem pii_245 : piOk (24, 47, 89, 0, 3) := ⟨(tm2 (i := 239) rfl rfl), fun _ => ⟨by decide, by decide +kernel, fun _ => ws_89, wi_89, fun h => absurd h (by decide)⟩⟩
theorem pii_246 : piOk (24, 51, 127, 0, 3) := ⟨(tm5 (i := 207) rfl rfl), fun _ => ⟨by decide, by decide +kernel, fun _ => ws_127, wi_127, fun h => absurd h (by decide)⟩⟩
theorem pii_247 : piOk (24, 52, 90, 0, 0) := ⟨(tm3 (i := 3) rfl rfl), fun _ => ⟨by decide, by decide +kernel, fun _ => ws_90, wi_90, fun h => absurd h (by decide)⟩⟩
theorem pii_248 : piOk (24, 56, 128, 0, 0) := ⟨(tm5 (i := 211) rfl rfl), fun _ => ⟨by decide, by decide +kernel, fun _ => ws_128, wi_128, fun h => absurd h (by decide)⟩⟩
theorem pii_249 : piOk (24, 57, 91, 0, 2) := ⟨(tm3 (i := 67) rfl rfl), fun _ => ⟨by decide, by decide +kernel, fun _ => ws_91, wi_91, fun h => absurd h (by decide)⟩⟩
theorem pii_250 : piOk (24, 60, 132, 0, 2) := ⟨(tm5 (i := 215) rfl rfl), fun _ => ⟨by decide, by decide +kernel, fun _ => ws_132, wi_132, fun h => absurd h (by decide)⟩⟩
theorem pii_251 : piOk (24, 61, 92, 0, 2) := ⟨(tm3 (i := 110) rfl rfl), fun _ => ⟨by decide, by decide +kernel, fun _ => ws_92, wi_92, fun h => absurd h (by decide)⟩⟩
theorem pii_252 : piOk (24, 64, 134, 0, 2) := ⟨(tm5 (i := 239) rfl rfl), fun _ => ⟨by decide, by decide +kernel, fun _ => ws_134, wi_134, fun h => absurd h (by decide)⟩⟩
theorem pii_253 : piOk (24, 65, 93, 0, 3) := ⟨(tm3 (i := 123) rfl rfl), fun _ => ⟨by decide, by decide +kernel, fun _ => ws_93, wi_93, fun h => absurd h (by decide)⟩⟩
theorem pii_254 : piOk (24, 68, 135, 0, 3) := ⟨(tm6 (i := 3) rfl rfl), fun _ => ⟨by decide, by decide +kernel, fun _ => ws_135, wi_135, fun h => absurd h (by decide)⟩⟩
theorem pii_255 : piOk (24, 69, 94, 0, 1) := ⟨(tm3 (i := 131) rfl rfl), fun _ => ⟨by decide, by decide +kernel, fun _ => ws_94, wi_94, fun h => absurd h (by decide)⟩⟩
theorem pii_256 : piOk (24, 72, 136, 0, 1) := ⟨(tm6 (i := 7) rfl rfl), fun _ => ⟨by decide, by decide +kernel, fun _ => ws_136, wi_136, fun h => absurd h (by decide)⟩⟩
theorem pii_257 : piOk (24, 73, 95, 0, 2) := ⟨(tm3 (i := 141) rfl rfl), fun _ => ⟨by decide, by decide +kernel, fun _ => ws_95, wi_95, fun h => absurd h (by decide)⟩⟩
theorem pii_258 : piOk (24, 76, 137, 0, 2) := ⟨(tm6 (i := 11) rfl rfl), fun _ => ⟨by decide, by decide +kernel, fun _ => ws_137, wi_137, fun h => absurd h (by decide)⟩⟩
theorem pii_259 : piOk (24, 77, 96, 0, 2) := ⟨(tm3 (i := 151) rfl rfl), fun _ => ⟨by decide, by decide +kernel, fun _ => ws_96, wi_96, fun h => absurd h (by decide)⟩⟩
theorem pii_260 : piOk (24, 80, 138, 0, 2) := ⟨(tm6 (i := 15) rfl rfl), fun _ => ⟨by decide, by decide +kernel, fun _ => ws_138, wi_138, fun h => absurd h (by decide)⟩⟩
theorem pii_261 : piOk (24, 81, 97, 0, 2) := ⟨(tm3 (i := 156) rfl rfl), fun _ => ⟨by decide, by decide +kernel, fun _ => ws_97, wi_97, fun h => absurd h (by decide)⟩⟩
theorem pii_262 : piOk (24, 84, 173, 0, 2) := ⟨(tm6 (i := 60) rfl rfl), fun _ => ⟨by decide, by decide +kernel, fun _ => ws_173, wi_173, fun h => absurd h (by decide)⟩⟩
theorem pii_263 : piOk (24, 85, 98, 0, 2) := ⟨(tm4 (i := 161) rfl rfl), fun _ => ⟨by decide, by decide +kernel, fun _ => ws_98, wi_98, fun h => absurd h (by decide)⟩⟩
theorem pii_264 : piOk (24, 88, 174, 0, 2) := ⟨(tm6 (i := 160) rfl rfl), fun _ => ⟨by decide, by decide +kernel, fun _ => ws_174, wi_174, fun h => absurd h (by decide)⟩⟩
theorem pii_265 : piOk (24, 89, 99, 0, 2) := ⟨(tm4 (i := 165) rfl rfl), fun _ => ⟨by decide, by decide +kernel, fun _ => ws_99, wi_99, fun h => absurd h (by decide)⟩⟩
theorem pii_266 : piOk (24, 92, 148, 0, 2) := ⟨(tm6 (i := 48) rfl rfl), fun _ => ⟨by decide, by decide +kernel, fun _ => ws_148, wi_148, fun h => absurd h (by decide)⟩⟩
theorem pii_267 : piOk (24, 93, 100, 0, 2) := ⟨(tm4 (i := 169) rfl rfl), fun _ => ⟨by decide, by decide +kernel, fun _ => ws_100, wi_100, fun h => absurd h (by decide)⟩⟩
theorem pii_268 : piOk (24, 97, 145, 0, 2) := ⟨(tm6 (i := 19) rfl rfl), fun _ => ⟨by decide, by decide +kernel, fun _ => ws_145, wi_145, fun h => absurd h (by decide)⟩⟩
theorem pii_269 : piOk (24, 98, 101, 0, 1) := ⟨(tm4 (i := 174) rfl rfl), fun _ => ⟨by decide, by decide +kernel, fun _ => ws_101, wi_101, fun h => absurd h (by decide)⟩⟩
theorem pii_270 : piOk (24, 101, 175, 0, 1) := ⟨(tm6 (i := 164) rfl rfl), fun _ => ⟨by decide, by decide +kernel, fun _ => ws_175, wi_175, fun h => absurd h (by decide)⟩⟩
theorem pii_271 : piOk (24, 102, 102, 0, 1) := ⟨(tm4 (i := 182) rfl rfl), fun _ => ⟨by decide, by decide +kernel, fun _ => ws_102, wi_102, fun h => absurd h (by decide)⟩⟩
theorem pii_272 : piOk (24, 105, 176, 0, 1) := ⟨(tm6 (i := 168) rfl rfl), fun _ => ⟨by decide, by decide +kernel, fun _ => ws_176, wi_176, fun h => absurd h (by decide)⟩⟩
theorem pii_273 : piOk (24, 106, 103, 0, 2) := ⟨(tm4 (i := 187) rfl rfl), fun _ => ⟨by decide, by decide +kernel, fun _ => ws_103, wi_103, fun h => absurd h (by decide)⟩⟩
theorem pii_274 : piOk (24, 109, 177, 0, 2) := ⟨(tm6 (i := 172) rfl rfl), fun _ => ⟨by decide, by decide +kernel, fun _ => ws_177, wi_177, fun h => absurd h (by decide)⟩⟩
theorem pii_275 : piOk (24, 110, 104, 0, 0) := ⟨(tm4 (i := 195) rfl rfl), fun _ => ⟨by decide, by decide +kernel, fun _ => ws_104, wi_104, fun h => absurd h (by decide)⟩⟩
theorem pii_276 : piOk (24, 113, 178, 0, 0) := ⟨(tm6 (i := 177) rfl rfl), fun _ => ⟨by decide, by decide +kernel, fun _ => ws_178, wi_178, fun h => absurd h (by decide)⟩⟩
theorem pii_277 : piOk (24, 114, 105, 0, 1) := ⟨(tm4 (i := 204) rfl rfl), fun _ => ⟨by decide, by decide +kernel, fun _ => ws_105, wi_105, fun h => absurd h (by decide)⟩⟩
theorem pii_278 : piOk (24, 117, 179, 0, 1) := ⟨(tm6 (i := 181) rfl rfl), fun _ => ⟨by decide, by decide +kernel, fun _ => ws_179, wi_179, fun h => absurd h (by decide)⟩⟩
theorem pii_279 : piOk (24, 118, 106, 0, 0) := ⟨(tm4 (i := 208) rfl rfl), fun _ => ⟨by decide, by decide +kernel, fun _ => ws_106, wi_106, fun h => absurd h (by decide)⟩⟩
theorem pii_280 : piOk (24, 121, 180, 0, 0) := ⟨(tm6 (i := 185) rfl rfl), fun _ => ⟨by decide, by decide +kernel, fun _ => ws_180, wi_180, fun h => absurd h (by decide)⟩⟩
theorem pi_ok_g0 : ∀ q ∈ (zPI.drop 0).take 25, piOk q := List.forall_mem_cons.mpr ⟨pii_0, List.forall_mem_cons.mpr ⟨pii_1, List.forall_mem_cons.mpr ⟨pii_2, List.forall_mem_cons.mpr ⟨pii_3, List.forall_mem_cons.mpr ⟨pii_4, List.forall_mem_cons.mpr ⟨pii_5, List.forall_mem_cons.mpr ⟨pii_6, List.forall_mem_cons.mpr ⟨pii_7, List.forall_mem_cons.mpr ⟨pii_8, List.forall_mem_cons.mpr ⟨pii_9, List.forall_mem_cons.mpr ⟨pii_10, List.forall_mem_cons.mpr ⟨pii_11, List.forall_mem_cons.mpr ⟨pii_12, List.forall_mem_cons.mpr ⟨pii_13, List.forall_mem_cons.mpr ⟨pii_14, List.forall_mem_cons.mpr ⟨pii_15, List.forall_mem_cons.mpr ⟨pii_16, List.forall_mem_cons.mpr ⟨pii_17, List.forall_mem_cons.mpr ⟨pii_18, List.forall_mem_cons.mpr ⟨pii_19, List.forall_mem_cons.mpr ⟨pii_20, List.forall_mem_cons.mpr ⟨pii_21, List.forall_mem_cons.mpr ⟨pii_22, List.forall_mem_cons.mpr ⟨pii_23, List.forall_mem_cons.mpr ⟨pii_24, fun _ h => absurd h List.not_mem_nil⟩⟩⟩⟩⟩⟩⟩⟩⟩⟩⟩⟩⟩⟩⟩⟩⟩⟩⟩⟩⟩⟩⟩⟩⟩
theorem pi_ok_g1 : ∀ q ∈ (zPI.drop 25).take 25, piOk q := List.forall_mem_cons.mpr ⟨pii_25, List.forall_mem_cons.mpr ⟨pii_26, List.forall_mem_cons.mpr ⟨pii_27, List.forall_mem_cons.mpr ⟨pii_28, List.forall_mem_cons.mpr ⟨pii_29, List.forall_mem_cons.mpr ⟨pii_30, List.forall_mem_cons.mpr ⟨pii_31, List.forall_mem_cons.mpr ⟨pii_32, List.forall_mem_cons.mpr ⟨pii_33, List.forall_mem_cons.mpr ⟨pii_34, List.forall_mem_cons.mpr ⟨pii_35, List.forall_mem_cons.mpr ⟨pii_36, List.forall_mem_cons.mpr ⟨pii_37, List.forall_mem_cons.mpr ⟨pii_38, List.forall_mem_cons.mpr ⟨pii_39, List.forall_mem_cons.mpr ⟨pii_40, List.forall_mem_cons.mpr ⟨pii_41, List.forall_mem_cons.mpr ⟨pii_42, List.forall_mem_cons.mpr ⟨pii_43, List.forall_mem_cons.mpr ⟨pii_44, List.forall_mem_cons.mpr ⟨pii_45, List.forall_mem_cons.mpr ⟨pii_46, List.forall_mem_cons.mpr ⟨pii_47, List.forall_mem_cons.mpr ⟨pii_48, List.forall_mem_cons.mpr ⟨pii_49, fun _ h => absurd h List.not_mem_nil⟩⟩⟩⟩⟩⟩⟩⟩⟩⟩⟩⟩⟩⟩⟩⟩⟩⟩⟩⟩⟩⟩⟩⟩⟩
theorem pi_ok_g2 : ∀ q ∈ (zPI.drop 50).take 25, piOk q := List.forall_mem_cons.mpr ⟨pii_50, List.forall_mem_cons.mpr ⟨pii_51, List.forall_mem_cons.mpr ⟨pii_52, List.forall_mem_cons.mpr ⟨pii_53, List.forall_mem_cons.mpr ⟨pii_54, List.forall_mem_cons.mpr ⟨pii_55, List.forall_mem_cons.mpr ⟨pii_56, List.forall_mem_cons.mpr ⟨pii_57, List.forall_mem_cons.mpr ⟨pii_58, List.forall_mem_cons.mpr ⟨pii_59, List.forall_mem_cons.mpr ⟨pii_60, List.forall_mem_cons.mpr ⟨pii_61, List.forall_mem_cons.mpr ⟨pii_62, List.forall_mem_cons.mpr ⟨pii_63, List.forall_mem_cons.mpr ⟨pii_64, List.forall_mem_cons.mpr ⟨pii_65, List.forall_mem_cons.mpr ⟨pii_66, List.forall_mem_cons.mpr ⟨pii_67, List.forall_mem_cons.mpr ⟨pii_68, List.forall_mem_cons.mpr ⟨pii_69, List.forall_mem_cons.mpr ⟨pii_70, List.forall_mem_cons.mpr ⟨pii_71, List.forall_mem_cons.mpr ⟨pii_72, List.forall_mem_cons.mpr ⟨pii_73, List.forall_mem_cons.mpr ⟨pii_74, fun _ h => absurd h List.not_mem_nil⟩⟩⟩⟩⟩⟩⟩⟩⟩⟩⟩⟩⟩⟩⟩⟩⟩⟩⟩⟩⟩⟩⟩⟩⟩
theorem pi_ok_g3 : ∀ q ∈ (zPI.drop 75).take 25, piOk q := List.forall_mem_cons.mpr ⟨pii_75, List.forall_mem_cons.mpr ⟨pii_76, List.forall_mem_cons.mpr ⟨pii_77, List.forall_mem_cons.mpr ⟨pii_78, List.forall_mem_cons.mpr ⟨pii_79, List.forall_mem_cons.mpr ⟨pii_80, List.forall_mem_cons.mpr ⟨pii_81, List.forall_mem_cons.mpr ⟨pii_82, List.forall_mem_cons.mpr ⟨pii_83, List.forall_mem_cons.mpr ⟨pii_84, List.forall_mem_cons.mpr ⟨pii_85, List.forall_mem_cons.mpr ⟨pii_86, List.forall_mem_cons.mpr ⟨pii_87, List.forall_mem_cons.mpr ⟨pii_88, List.forall_mem_cons.mpr ⟨pii_89, List.forall_mem_cons.mpr ⟨pii_90, List.forall_mem_cons.mpr ⟨pii_91, List.forall_mem_cons.mpr ⟨pii_92, List.forall_mem_cons.mpr ⟨pii_93, List.forall_mem_cons.mpr ⟨pii_94, List.forall_mem_cons.mpr ⟨pii_95, List.forall_mem_cons.mpr ⟨pii_96, List.forall_mem_cons.mpr ⟨pii_97, List.forall_mem_cons.mpr ⟨pii_98, List.forall_mem_cons.mpr ⟨pii_99, fun _ h => absurd h List.not_mem_nil⟩⟩⟩⟩⟩⟩⟩⟩⟩⟩⟩⟩⟩⟩⟩⟩⟩⟩⟩⟩⟩⟩⟩⟩⟩
theorem pi_ok_g4 : ∀ q ∈ (zPI.drop 100).take 25, piOk q := List.forall_mem_cons.mpr ⟨pii_100, List.forall_mem_cons.mpr ⟨pii_101, List.forall_mem_cons.mpr ⟨pii_102, List.forall_mem_cons.mpr ⟨pii_103, List.forall_mem_cons.mpr ⟨pii_104, List.forall_mem_cons.mpr ⟨pii_105, List.forall_mem_cons.mpr ⟨pii_106, List.forall_mem_cons.mpr ⟨pii_107, List.forall_mem_cons.mpr ⟨pii_108, List.forall_mem_cons.mpr ⟨pii_109, List.forall_mem_cons.mpr ⟨pii_110, List.forall_mem_cons.mpr ⟨pii_111, List.forall_mem_cons.mpr ⟨pii_112, List.forall_mem_cons.mpr ⟨pii_113, List.forall_mem_cons.mpr ⟨pii_114, List.forall_mem_cons.mpr ⟨pii_115, List.forall_mem_cons.mpr ⟨pii_116, List.forall_mem_cons.mpr ⟨pii_117, List.forall_mem_cons.mpr ⟨pii_118, List.forall_mem_cons.mpr ⟨pii_119, List.forall_mem_cons.mpr ⟨pii_120, List.forall_mem_cons.mpr ⟨pii_121, List.forall_mem_cons.mpr ⟨pii_122, List.forall_mem_cons.mpr ⟨pii_123, List.forall_mem_cons.mpr ⟨pii_124, fun _ h => absurd h List.not_mem_nil⟩⟩⟩⟩⟩⟩⟩⟩⟩⟩⟩⟩⟩⟩⟩⟩⟩⟩⟩⟩⟩⟩⟩⟩⟩
theorem pi_ok_g5 : ∀ q ∈ (zPI.drop 125).take 25, piOk q := List.forall_mem_cons.mpr ⟨pii_125, List.forall_mem_cons.mpr ⟨pii_126, List.forall_mem_cons.mpr ⟨pii_127, List.forall_mem_cons.mpr ⟨pii_128, List.forall_mem_cons.mpr ⟨pii_129, List.forall_mem_cons.mpr ⟨pii_130, List.forall_mem_cons.mpr ⟨pii_131, List.forall_mem_cons.mpr ⟨pii_132, List.forall_mem_cons.mpr ⟨pii_133, List.forall_mem_cons.mpr ⟨pii_134, List.forall_mem_cons.mpr ⟨pii_135, List.forall_mem_cons.mpr ⟨pii_136, List.forall_mem_cons.mpr ⟨pii_137, List.forall_mem_cons.mpr ⟨pii_138, List.forall_mem_cons.mpr ⟨pii_139, List.forall_mem_cons.mpr ⟨pii_140, List.forall_mem_cons.mpr ⟨pii_141, List.forall_mem_cons.mpr ⟨pii_142, List.forall_mem_cons.mpr ⟨pii_143, List.forall_mem_cons.mpr ⟨pii_144, List.forall_mem_cons.mpr ⟨pii_145, List.forall_mem_cons.mpr ⟨pii_146, List.forall_mem_cons.mpr ⟨pii_147, List.forall_mem_cons.mpr ⟨pii_148, List.forall_mem_cons.mpr ⟨pii_149, fun _ h => absurd h List.not_mem_nil⟩⟩⟩⟩⟩⟩⟩⟩⟩⟩⟩⟩⟩⟩⟩⟩⟩⟩⟩⟩⟩⟩⟩⟩⟩
theorem pi_ok_g6 : ∀ q ∈ (zPI.drop 150).take 25, piOk q := List.forall_mem_cons.mpr ⟨pii_150, List.forall_mem_cons.mpr ⟨pii_151, List.forall_mem_cons.mpr ⟨pii_152, List.forall_mem_cons.mpr ⟨pii_153, List.forall_mem_cons.mpr ⟨pii_154, List.forall_mem_cons.mpr ⟨pii_155, List.forall_mem_cons.mpr ⟨pii_156, List.forall_mem_cons.mpr ⟨pii_157, List.forall_mem_cons.mpr ⟨pii_158, List.forall_mem_cons.mpr ⟨pii_159, List.forall_mem_cons.mpr ⟨pii_160, List.forall_mem_cons.mpr ⟨pii_161, List.forall_mem_cons.mpr ⟨pii_162, List.forall_mem_cons.mpr ⟨pii_163, List.forall_mem_cons.mpr ⟨pii_164, List.forall_mem_cons.mpr ⟨pii_165, List.forall_mem_cons.mpr ⟨pii_166, List.forall_mem_cons.mpr ⟨pii_167, List.forall_mem_cons.mpr ⟨pii_168, List.forall_mem_cons.mpr ⟨pii_169, List.forall_mem_cons.mpr ⟨pii_170, List.forall_mem_cons.mpr ⟨pii_171, List.forall_mem_cons.mpr ⟨pii_172, List.forall_mem_cons.mpr ⟨pii_173, List.forall_mem_cons.mpr ⟨pii_174, fun _ h => absurd h List.not_mem_nil⟩⟩⟩⟩⟩⟩⟩⟩⟩⟩⟩⟩⟩⟩⟩⟩⟩⟩⟩⟩⟩⟩⟩⟩⟩
theorem pi_ok_g7 : ∀ q ∈ (zPI.drop 175).take 25, piOk q := List.forall_mem_cons.mpr ⟨pii_175, List.forall_mem_cons.mpr ⟨pii_176, List.forall_mem_cons.mpr ⟨pii_177, List.forall_mem_cons.mpr ⟨pii_178, List.forall_mem_cons.mpr ⟨pii_179, List.forall_mem_cons.mpr ⟨pii_180, List.forall_mem_cons.mpr ⟨pii_181, List.forall_mem_cons.mpr ⟨pii_182, List.forall_mem_cons.mpr ⟨pii_183, List.forall_mem_cons.mpr ⟨pii_184, List.forall_mem_cons.mpr ⟨pii_185, List.forall_mem_cons.mpr ⟨pii_186, List.forall_mem_cons.mpr ⟨pii_187, List.forall_mem_cons.mpr ⟨pii_188, List.forall_mem_cons.mpr ⟨pii_189, List.forall_mem_cons.mpr ⟨pii_190, List.forall_mem_cons.mpr ⟨pii_191, List.forall_mem_cons.mpr ⟨pii_192, List.forall_mem_cons.mpr ⟨pii_193, List.forall_mem_cons.mpr ⟨pii_194, List.forall_mem_cons.mpr ⟨pii_195, List.forall_mem_cons.mpr ⟨pii_196, List.forall_mem_cons.mpr ⟨pii_197, List.forall_mem_cons.mpr ⟨pii_198, List.forall_mem_cons.mpr ⟨pii_199, fun _ h => absurd h List.not_mem_nil⟩⟩⟩⟩⟩⟩⟩⟩⟩⟩⟩⟩⟩⟩⟩⟩⟩⟩⟩⟩⟩⟩⟩⟩⟩
theorem pi_ok_g8 : ∀ q ∈ (zPI.drop 200).take 25, piOk q := List.forall_mem_cons.mpr ⟨pii_200, List.forall_mem_cons.mpr ⟨pii_201, List.forall_mem_cons.mpr ⟨pii_202, List.forall_mem_cons.mpr ⟨pii_203, List.forall_mem_cons.mpr ⟨pii_204, List.forall_mem_cons.mpr ⟨pii_205, List.forall_mem_cons.mpr ⟨pii_206, List.forall_mem_cons.mpr ⟨pii_207, List.forall_mem_cons.mpr ⟨pii_208, List.forall_mem_cons.mpr ⟨pii_209, List.forall_mem_cons.mpr ⟨pii_210, List.forall_mem_cons.mpr ⟨pii_211, List.forall_mem_cons.mpr ⟨pii_212, List.forall_mem_cons.mpr ⟨pii_213, List.forall_mem_cons.mpr ⟨pii_214, List.forall_mem_cons.mpr ⟨pii_215, List.forall_mem_cons.mpr ⟨pii_216, List.forall_mem_cons.mpr ⟨pii_217, List.forall_mem_cons.mpr ⟨pii_218, List.forall_mem_cons.mpr ⟨pii_219, List.forall_mem_cons.mpr ⟨pii_220, List.forall_mem_cons.mpr ⟨pii_221, List.forall_mem_cons.mpr ⟨pii_222, List.forall_mem_cons.mpr ⟨pii_223, List.forall_mem_cons.mpr ⟨pii_224, fun _ h => absurd h List.not_mem_nil⟩⟩⟩⟩⟩⟩⟩⟩⟩⟩⟩⟩⟩⟩⟩⟩⟩⟩⟩⟩⟩⟩⟩⟩⟩
theorem pi_ok_g9 : ∀ q ∈ (zPI.drop 225).take 25, piOk q := List.forall_mem_cons.mpr ⟨pii_225, List.forall_mem_cons.mpr ⟨pii_226, List.forall_mem_cons.mpr ⟨pii_227, List.forall_mem_cons.mpr ⟨pii_228, List.forall_mem_cons.mpr ⟨pii_229, List.forall_mem_cons.mpr ⟨pii_230, List.forall_mem_cons.mpr ⟨pii_231, List.forall_mem_cons.mpr ⟨pii_232, List.forall_mem_cons.mpr ⟨pii_233, List.forall_mem_cons.mpr ⟨pii_234, List.forall_mem_cons.mpr ⟨pii_235, List.forall_mem_cons.mpr ⟨pii_236, List.forall_mem_cons.mpr ⟨pii_237, List.forall_mem_cons.mpr ⟨pii_238, List.forall_mem_cons.mpr ⟨pii_239, List.forall_mem_cons.mpr ⟨pii_240, List.forall_mem_cons.mpr ⟨pii_241, List.forall_mem_cons.mpr ⟨pii_242, List.forall_mem_cons.mpr ⟨pii_243, List.forall_mem_cons.mpr ⟨pii_244, List.forall_mem_cons.mpr ⟨pii_245, List.forall_mem_cons.mpr ⟨pii_246, List.forall_mem_cons.mpr ⟨pii_247, List.forall_mem_cons.mpr ⟨pii_248, List.forall_mem_cons.mpr ⟨pii_249, fun _ h => absurd h List.not_mem_nil⟩⟩⟩⟩⟩⟩⟩⟩⟩⟩⟩⟩⟩⟩⟩⟩⟩⟩⟩⟩⟩⟩⟩⟩⟩
theorem pi_ok_g10 : ∀ q ∈ (zPI.drop 250).take 25, piOk q := List.forall_mem_cons.mpr ⟨pii_250, List.forall_mem_cons.mpr ⟨pii_251, List.forall_mem_cons.mpr ⟨pii_252, List.forall_mem_cons.mpr ⟨pii_253, List.forall_mem_cons.mpr ⟨pii_254, List.forall_mem_cons.mpr ⟨pii_255, List.forall_mem_cons.mpr ⟨pii_256, List.forall_mem_cons.mpr ⟨pii_257, List.forall_mem_cons.mpr ⟨pii_258, List.forall_mem_cons.mpr ⟨pii_259, List.forall_mem_cons.mpr ⟨pii_260, List.forall_mem_cons.mpr ⟨pii_261, List.forall_mem_cons.mpr ⟨pii_262, List.forall_mem_cons.mpr ⟨pii_263, List.forall_mem_cons.mpr ⟨pii_264, List.forall_mem_cons.mpr ⟨pii_265, List.forall_mem_cons.mpr ⟨pii_266, List.forall_mem_cons.mpr ⟨pii_267, List.forall_mem_cons.mpr ⟨pii_268, List.forall_mem_cons.mpr ⟨pii_269, List.forall_mem_cons.mpr ⟨pii_270, List.forall_mem_cons.mpr ⟨pii_271, List.forall_mem_cons.mpr ⟨pii_272, List.forall_mem_cons.mpr ⟨pii_273, List.forall_mem_cons.mpr ⟨pii_274, fun _ h => absurd h List.not_mem_nil⟩⟩⟩⟩⟩⟩⟩⟩⟩⟩⟩⟩⟩⟩⟩⟩⟩⟩⟩⟩⟩⟩⟩⟩⟩
theorem pi_ok_g11 : ∀ q ∈ (zPI.drop 275).take 25, piOk q := List.forall_mem_cons.mpr ⟨pii_275, List.forall_mem_cons.mpr ⟨pii_276, List.forall_mem_cons.mpr ⟨pii_277, List.forall_mem_cons.mpr ⟨pii_278, List.forall_mem_cons.mpr ⟨pii_279, List.forall_mem_cons.mpr ⟨pii_280, fun _ h => absurd h List.not_mem_nil⟩⟩⟩⟩⟩⟩
theorem pi_ok_cut : zPI = (zPI.drop 0).take 25 ++ ((zPI.drop 25).take 25 ++ ((zPI.drop 50).take 25 ++ ((zPI.drop 75).take 25 ++ ((zPI.drop 100).take 25 ++ ((zPI.drop 125).take 25 ++ ((zPI.drop 150).take 25 ++ ((zPI.drop 175).take 25 ++ ((zPI.drop 200).take 25 ++ ((zPI.drop 225).take 25 ++ ((zPI.drop 250).take 25 ++ ((zPI.drop 275).take 25))))))))))) := by decide +kernel
theorem pi_ok : ∀ q ∈ zPI, piOk q := by
  rw [pi_ok_cut]
  exact List.forall_mem_append.mpr ⟨pi_ok_g0, List.forall_mem_append.mpr ⟨pi_ok_g1, List.forall_mem_append.mpr ⟨pi_ok_g2, List.forall_mem_append.mpr ⟨pi_ok_g3, List.forall_mem_append.mpr ⟨pi_ok_g4, List.forall_mem_append.mpr ⟨pi_ok_g5, List.forall_mem_append.mpr ⟨pi_ok_g6, List.forall_mem_append.mpr ⟨pi_ok_g7, List.forall_mem_append.mpr ⟨pi_ok_g8, List.forall_mem_append.mpr ⟨pi_ok_g9, List.forall_mem_append.mpr ⟨pi_ok_g10, pi_ok_g11⟩⟩⟩⟩⟩⟩⟩⟩⟩⟩⟩
def pcOk (q : Nat × Nat × Nat) : Prop := .classLink (cNm q.1) q.2.1 (cNm q.2.2) ∈ bigW
theorem pci_0 : pcOk (0, 9, 13) := (tm3 (i := 22) rfl rfl)
theorem pci_1 : pcOk (0, 28, 5) := (tm3 (i := 24) rfl rfl)
theorem pci_2 : pcOk (0, 51, 8) := (tm3 (i := 86) rfl rfl)
theorem pci_3 : pcOk (1, 9, 13) := (tm1 (i := 232) rfl rfl)
theorem pci_4 : pcOk (1, 48, 3) := (tm3 (i := 234) rfl rfl)
theorem pci_5 : pcOk (3, 7, 5) := (tm4 (i := 9) rfl rfl)
theorem pci_6 : pcOk (3, 16, 7) := (tm4 (i := 11) rfl rfl)
theorem pci_7 : pcOk (4, 9, 13) := (tm1 (i := 219) rfl rfl)
theorem pci_8 : pcOk (4, 26, 0) := (tm3 (i := 16) rfl rfl)
theorem pci_9 : pcOk (4, 40, 8) := (tm3 (i := 109) rfl rfl)
theorem pci_10 : pcOk (5, 57, 8) := (tm3 (i := 188) rfl rfl)
theorem pci_11 : pcOk (7, 9, 2) := (tm2 (i := 86) rfl rfl)
theorem pci_12 : pcOk (8, 9, 2) := (tm1 (i := 78) rfl rfl)
theorem pci_13 : pcOk (8, 12, 8) := (tm2 (i := 177) rfl rfl)
theorem pci_14 : pcOk (8, 17, 13) := (tm1 (i := 80) rfl rfl)
theorem pci_15 : pcOk (9, 9, 2) := (tm2 (i := 20) rfl rfl)
theorem pci_16 : pcOk (9, 114, 8) := (tm4 (i := 78) rfl rfl)
theorem pci_17 : pcOk (10, 9, 13) := (tm1 (i := 38) rfl rfl)
theorem pci_18 : pcOk (10, 24, 8) := (tm1 (i := 72) rfl rfl)
theorem pci_19 : pcOk (11, 9, 10) := (tm1 (i := 32) rfl rfl)
theorem pci_20 : pcOk (11, 16, 2) := (tm1 (i := 211) rfl rfl)
theorem pci_21 : pcOk (11, 23, 4) := (tm1 (i := 213) rfl rfl)
theorem pci_22 : pcOk (11, 30, 1) := (tm1 (i := 226) rfl rfl)
theorem pci_23 : pcOk (11, 37, 9) := (tm2 (i := 14) rfl rfl)
theorem pci_24 : pcOk (11, 44, 6) := (tm2 (i := 29) rfl rfl)
theorem pci_25 : pcOk (11, 51, 5) := (tm2 (i := 58) rfl rfl)
theorem pci_26 : pcOk (11, 58, 7) := (tm2 (i := 80) rfl rfl)
theorem pci_27 : pcOk (11, 265, 3) := (tm4 (i := 193) rfl rfl)
theorem pci_28 : pcOk (24, 7, 11) := (tm1 (i := 24) rfl rfl)
theorem pci_29 : pcOk (24, 10, 12) := (tm4 (i := 223) rfl rfl)
theorem pc_ok_g0 : ∀ q ∈ (zPC.drop 0).take 25, pcOk q := List.forall_mem_cons.mpr ⟨pci_0, List.forall_mem_cons.mpr ⟨pci_1, List.forall_mem_cons.mpr ⟨pci_2, List.forall_mem_cons.mpr ⟨pci_3, List.forall_mem_cons.mpr ⟨pci_4, List.forall_mem_cons.mpr ⟨pci_5, List.forall_mem_cons.mpr ⟨pci_6, List.forall_mem_cons.mpr ⟨pci_7, List.forall_mem_cons.mpr ⟨pci_8, List.forall_mem_cons.mpr ⟨pci_9, List.forall_mem_cons.mpr ⟨pci_10, List.forall_mem_cons.mpr ⟨pci_11, List.forall_mem_cons.mpr ⟨pci_12, List.forall_mem_cons.mpr ⟨pci_13, List.forall_mem_cons.mpr ⟨pci_14, List.forall_mem_cons.mpr ⟨pci_15, List.forall_mem_cons.mpr ⟨pci_16, List.forall_mem_cons.mpr ⟨pci_17, List.forall_mem_cons.mpr ⟨pci_18, List.forall_mem_cons.mpr ⟨pci_19, List.forall_mem_cons.mpr ⟨pci_20, List.forall_mem_cons.mpr ⟨pci_21, List.forall_mem_cons.mpr ⟨pci_22, List.forall_mem_cons.mpr ⟨pci_23, List.forall_mem_cons.mpr ⟨pci_24, fun _ h => absurd h List.not_mem_nil⟩⟩⟩⟩⟩⟩⟩⟩⟩⟩⟩⟩⟩⟩⟩⟩⟩⟩⟩⟩⟩⟩⟩⟩⟩
theorem pc_ok_g1 : ∀ q ∈ (zPC.drop 25).take 25, pcOk q := List.forall_mem_cons.mpr ⟨pci_25, List.forall_mem_cons.mpr ⟨pci_26, List.forall_mem_cons.mpr ⟨pci_27, List.forall_mem_cons.mpr ⟨pci_28, List.forall_mem_cons.mpr ⟨pci_29, fun _ h => absurd h List.not_mem_nil⟩⟩⟩⟩⟩
theorem pc_ok_cut : zPC = (zPC.drop 0).take 25 ++ ((zPC.drop 25).take 25) := by decide +kernel
theorem pc_ok : ∀ q ∈ zPC, pcOk q := by
  rw [pc_ok_cut]
  exact List.forall_mem_append.mpr ⟨pc_ok_g0, pc_ok_g1⟩
def pkOk (q : Nat × Nat × Int) : Prop := .constant (cNm q.1) q.2.1 (Int32.ofInt q.2.2) ∈ bigW
theorem pki_0 : pkOk (12, 60, 34000) := (tm4 (i := 229) rfl rfl)
theorem pki_1 : pkOk (12, 76, 42925) := (tm4 (i := 230) rfl rfl)
theorem pki_2 : pkOk (19, 200, 2147483639) := (tm1 (i := 168) rfl rfl)
theorem pk_ok_g0 : ∀ q ∈ (zPK.drop 0).take 25, pkOk q := List.forall_mem_cons.mpr ⟨pki_0, List.forall_mem_cons.mpr ⟨pki_1, List.forall_mem_cons.mpr ⟨pki_2, fun _ h => absurd h List.not_mem_nil⟩⟩⟩
theorem pk_ok_cut : zPK = (zPK.drop 0).take 25 := by decide +kernel
theorem pk_ok : ∀ q ∈ zPK, pkOk q := by
  rw [pk_ok_cut]
  exact  pk_ok_g0
def plOk (q : Nat × Nat × Int) : Prop := .constantLong (cNm q.1) q.2.1 (Int64.ofInt q.2.2) ∈ bigW
theorem pli_0 : plOk (5, 98, 1469598103934665603) := (tm3 (i := 230) rfl rfl)
theorem pli_1 : plOk (5, 100, 1099511628211) := (tm3 (i := 231) rfl rfl)
theorem pli_2 : plOk (11, 217, -1) := (tm4 (i := 160) rfl rfl)
theorem pli_3 : plOk (11, 259, -9223372036854775808) := (tm4 (i := 191) rfl rfl)
theorem pli_4 : plOk (12, 154, 255) := (tm5 (i := 174) rfl rfl)
theorem pli_5 : plOk (12, 206, 1469598103934665603) := (tm6 (i := 46) rfl rfl)
theorem pli_6 : plOk (12, 208, 1099511628211) := (tm6 (i := 47) rfl rfl)
theorem pli_7 : plOk (12, 323, -9223372036854775808) := (tm6 (i := 176) rfl rfl)
theorem pli_8 : plOk (20, 314, 6148914691236517205) := (tm3 (i := 148) rfl rfl)
theorem pli_9 : plOk (20, 316, 3689348814741910323) := (tm3 (i := 149) rfl rfl)
theorem pli_10 : plOk (20, 318, 1085102592571150095) := (tm3 (i := 150) rfl rfl)
theorem pli_11 : plOk (24, 23, 4294967295) := (tm6 (i := 190) rfl rfl)
theorem pl_ok_g0 : ∀ q ∈ (zPL.drop 0).take 25, plOk q := List.forall_mem_cons.mpr ⟨pli_0, List.forall_mem_cons.mpr ⟨pli_1, List.forall_mem_cons.mpr ⟨pli_2, List.forall_mem_cons.mpr ⟨pli_3, List.forall_mem_cons.mpr ⟨pli_4, List.forall_mem_cons.mpr ⟨pli_5, List.forall_mem_cons.mpr ⟨pli_6, List.forall_mem_cons.mpr ⟨pli_7, List.forall_mem_cons.mpr ⟨pli_8, List.forall_mem_cons.mpr ⟨pli_9, List.forall_mem_cons.mpr ⟨pli_10, List.forall_mem_cons.mpr ⟨pli_11, fun _ h => absurd h List.not_mem_nil⟩⟩⟩⟩⟩⟩⟩⟩⟩⟩⟩⟩
theorem pl_ok_cut : zPL = (zPL.drop 0).take 25 := by decide +kernel
theorem pl_ok : ∀ q ∈ zPL, plOk q := by
  rw [pl_ok_cut]
  exact  pl_ok_g0
theorem an_ok : ∀ w ∈ zAN, w ∈ bigW := List.forall_mem_cons.mpr ⟨(tm1 (i := 78) rfl rfl), List.forall_mem_cons.mpr ⟨(tm1 (i := 198) rfl rfl), List.forall_mem_cons.mpr ⟨(tm1 (i := 206) rfl rfl), List.forall_mem_cons.mpr ⟨(tm2 (i := 86) rfl rfl), List.forall_mem_cons.mpr ⟨(tm3 (i := 24) rfl rfl), fun _ h => absurd h List.not_mem_nil⟩⟩⟩⟩⟩
theorem w_stat : Cond.fieldLink "java/util/ArrayList" 39 "java/util/ArrayList" "DEFAULTCAPACITY_EMPTY_ELEMENTDATA" "[Ljava/lang/Object;" ∈ bigW := (tm1 (i := 50) rfl rfl)
theorem w_ldcM : Cond.classLink "java/util/Arrays" 110 "[Ljava/lang/Object;" ∈ bigW := (tm1 (i := 196) rfl rfl)
theorem w_mna : Cond.classLink "BuildCache$Log" 11 "[[I" ∈ bigW := (tm2 (i := 35) rfl rfl)
theorem w_aI : Cond.arrayClass .int ∈ bigW := (tm1 (i := 101) rfl rfl)
theorem w_aZ : Cond.arrayClass .boolean ∈ bigW := (tm5 (i := 154) rfl rfl)
theorem w_gcS : Cond.selects "[Ljava/lang/Object;" gcY gcY ∈ bigW := (tm6 (i := 206) rfl rfl)
theorem w_gcI : Cond.instanceMethod gcY ∈ bigW := (tm1 (i := 176) rfl rfl)
theorem w_gcN : Cond.native gcY ∈ bigW := (tm1 (i := 192) rfl rfl)
theorem w_acN : Cond.native arraycopyName ∈ bigW := (tm1 (i := 204) rfl rfl)
theorem w_acS : Cond.static arraycopyName ∈ bigW := (tm1 (i := 203) rfl rfl)
theorem w_acI : Cond.initialized "java/lang/System" ∈ bigW := (tm1 (i := 11) rfl rfl)
theorem w_oiI : Cond.instanceMethod objectInit ∈ bigW := (tm1 (i := 30) rfl rfl)
theorem w_oiC : Cond.code objectInit ⟨#[0xb1]⟩ 1 none ∈ bigW := (tm1 (i := 31) rfl rfl)
theorem w_maxS : Cond.static Lib.Math.max.name ∈ bigW := (tm1 (i := 166) rfl rfl)
theorem w_maxC : Cond.code Lib.Math.max.name Lib.Math.max.code 2 (some .int) ∈ bigW := (tm1 (i := 167) rfl rfl)
theorem w_minS : Cond.static Lib.Math.min.name ∈ bigW := (tm1 (i := 200) rfl rfl)
theorem w_minC : Cond.code Lib.Math.min.name Lib.Math.min.code 2 (some .int) ∈ bigW := (tm1 (i := 201) rfl rfl)
theorem w_mathI : Cond.initialized "java/lang/Math" ∈ bigW := (tm1 (i := 9) rfl rfl)
/-- a store into a final field stands in a constructor of the field's own class -/
def zPut (t : zR) (e : zE) : Bool :=
  match e with
  | (_, .putfield _, x, y, _) => decide (((cRow x).2.1 y).2.2.2 = false ∨ (((cRow x).2.1 y).2.2.2 = true ∧ ((cRow x).2.1 y).1 = cNm t.2.2.2.2.1 ∧ t.1.name = "<init>"))
  | _ => true
set_option maxRecDepth 100000 in
theorem zPut_ok : ∀ t ∈ zT, t.2.2.2.2.2.2.2.all (zPut t) = true := by decide +kernel
theorem zPut_at {m pc : Nat} {r : Instr × Nat × Nat × Int} (h : zcode m pc = some r) : zPut (mE m) (pc, r) = true :=
  List.all_eq_true.mp (zPut_ok _ (mE_mem h)) _ (zFind_mem h)
end
section
/-! A MACHINE OVER FIELDS: the heap as a function for each kind of field (class, place, address) and each kind of array (where made, address, index); an int of its own for the next address. What the law's bytecode does is first done here; parts 09 and 10 say that the JVM does the same. -/
abbrev zSt : Type := (Nat → Nat × Nat × Nat) × (Nat → Nat → Nat → Int32) × (Nat → Nat → Nat → Int64) × (Nat → Nat → Nat → Option Nat) × (Nat → Nat → Nat → Int32) × (Nat → Nat → Nat → Option Nat) × (Nat × Nat) × (Nat × Nat)
/-- what stands at an address: (0, _, _) nothing known; (1, class, _) an object; (2, place, length) an array of ints or booleans; (3, place, length) of references; (4, _, length) the script; (5, _, _) the list's empty array -/
def ztg (σ : zSt) : Nat → Nat × Nat × Nat := σ.1
def zfi (σ : zSt) : Nat → Nat → Nat → Int32 := σ.2.1
def zfl (σ : zSt) : Nat → Nat → Nat → Int64 := σ.2.2.1
def zfr (σ : zSt) : Nat → Nat → Nat → Option Nat := σ.2.2.2.1
def zai (σ : zSt) : Nat → Nat → Nat → Int32 := σ.2.2.2.2.1
def zar (σ : zSt) : Nat → Nat → Nat → Option Nat := σ.2.2.2.2.2.1
def znx (σ : zSt) : Nat := σ.2.2.2.2.2.2.1.1
def zsl (σ : zSt) : Nat := σ.2.2.2.2.2.2.1.2
def ze0 (σ : zSt) : Nat := σ.2.2.2.2.2.2.2.1
def zmi (σ : zSt) : Nat := σ.2.2.2.2.2.2.2.2
def zmk (tg : Nat → Nat × Nat × Nat) (fi : Nat → Nat → Nat → Int32) (fl : Nat → Nat → Nat → Int64) (fr : Nat → Nat → Nat → Option Nat) (ai : Nat → Nat → Nat → Int32) (ar : Nat → Nat → Nat → Option Nat) (nx sl e0 mi : Nat) : zSt := (tg, fi, fl, fr, ai, ar, (nx, sl), (e0, mi))
def up3 {α : Type} (f : Nat → Nat → Nat → α) (c k a : Nat) (v : α) : Nat → Nat → Nat → α := fun c' k' a' => if c' = c ∧ k' = k ∧ a' = a then v else f c' k' a'
def sfi (σ : zSt) (c k a : Nat) (v : Int32) : zSt := zmk (ztg σ) (up3 (zfi σ) c k a v) (zfl σ) (zfr σ) (zai σ) (zar σ) (znx σ) (zsl σ) (ze0 σ) (zmi σ)
def sfl (σ : zSt) (c k a : Nat) (v : Int64) : zSt := zmk (ztg σ) (zfi σ) (up3 (zfl σ) c k a v) (zfr σ) (zai σ) (zar σ) (znx σ) (zsl σ) (ze0 σ) (zmi σ)
def sfr (σ : zSt) (c k a : Nat) (v : Option Nat) : zSt := zmk (ztg σ) (zfi σ) (zfl σ) (up3 (zfr σ) c k a v) (zai σ) (zar σ) (znx σ) (zsl σ) (ze0 σ) (zmi σ)
def sai (σ : zSt) (t a i : Nat) (v : Int32) : zSt := zmk (ztg σ) (zfi σ) (zfl σ) (zfr σ) (up3 (zai σ) t a i v) (zar σ) (znx σ) (zsl σ) (ze0 σ) (zmi σ)
def sar (σ : zSt) (t a i : Nat) (v : Option Nat) : zSt := zmk (ztg σ) (zfi σ) (zfl σ) (zfr σ) (zai σ) (up3 (zar σ) t a i v) (znx σ) (zsl σ) (ze0 σ) (zmi σ)
/-- a whole row of references anew -/
def sarW (σ : zSt) (t a : Nat) (f : Nat → Option Nat) : zSt := zmk (ztg σ) (zfi σ) (zfl σ) (zfr σ) (zai σ) (fun t' a' i => if t' = t ∧ a' = a then f i else zar σ t' a' i) (znx σ) (zsl σ) (ze0 σ) (zmi σ)
def upT (f : Nat → Nat × Nat × Nat) (a : Nat) (v : Nat × Nat × Nat) : Nat → Nat × Nat × Nat := fun b => if b = a then v else f b
def zNew (σ : zSt) (c : Nat) : zSt := zmk (upT (ztg σ) (znx σ) (1, c, 0)) (fun c' k b => if c' = c ∧ b = znx σ then 0 else zfi σ c' k b) (fun c' k b => if c' = c ∧ b = znx σ then 0 else zfl σ c' k b) (fun c' k b => if c' = c ∧ b = znx σ then none else zfr σ c' k b) (zai σ) (zar σ) (znx σ + 1) (zsl σ + (cRow c).2.2) (ze0 σ) (zmi σ)
def zNewI (σ : zSt) (t n : Nat) : zSt := zmk (upT (ztg σ) (znx σ) (2, t, n)) (zfi σ) (zfl σ) (zfr σ) (fun t' b i => if t' = t ∧ b = znx σ then 0 else zai σ t' b i) (zar σ) (znx σ + 1) (zsl σ + n) (ze0 σ) (zmi σ)
def zNewR (σ : zSt) (t n : Nat) : zSt := zmk (upT (ztg σ) (znx σ) (3, t, n)) (zfi σ) (zfl σ) (zfr σ) (zai σ) (fun t' b i => if t' = t ∧ b = znx σ then none else zar σ t' b i) (znx σ + 1) (zsl σ + n) (ze0 σ) (zmi σ)
def zNewM (σ : zSt) (n k : Nat) : zSt := zmk (fun b => if b = znx σ then (3, 9, n) else if znx σ < b ∧ b ≤ znx σ + n then (2, 10, k) else ztg σ b) (zfi σ) (zfl σ) (zfr σ) (fun t' b i => if t' = 10 ∧ znx σ < b ∧ b ≤ znx σ + n then 0 else zai σ t' b i) (fun t' b i => if t' = 9 ∧ b = znx σ then (if i < n then some (znx σ + 1 + i) else none) else zar σ t' b i) (znx σ + 1 + n) (zsl σ + n + n * k) (ze0 σ) (zmi σ)
def zval (σ : zSt) (c k a : Nat) : Value := if fTy c k = 1 then .long (zfl σ c k a) else if fTy c k = 2 then va_rf (zfr σ c k a) else .int (zfi σ c k a)
abbrev zC : Type := Nat × List (Option Value) × List Value × zSt
def zisI : Value → Bool
  | .int _ => true
  | _ => false
def zisL : Value → Bool
  | .long _ => true
  | _ => false
def zisA : Value → Bool
  | .ref _ => true
  | _ => false
def zW (r : List Value) : Nat := (r.map fun v => v.category).sum
/-- the local ahead of this one is no long -/
def zNL (L : List (Option Value)) : Nat → Bool
  | 0 => true
  | j + 1 => match L[j]? with
    | some (some v) => v.category == 1
    | _ => true
def zLd (p : Value → Bool) (k npc : Nat) (L : List (Option Value)) (S : List Value) (σ : zSt) : Option zC :=
  match L[k]? with
  | some (some v) => if p v = true then some (npc, L, v :: S, σ) else none
  | _ => none
def zSto (p : Value → Bool) (k nL npc : Nat) (L : List (Option Value)) (S : List Value) (σ : zSt) : Option zC :=
  match S with
  | v :: r => if p v = true ∧ k < nL ∧ zNL L k = true then some (npc, L.set k (some v), r, σ) else none
  | _ => none
def zStoL (k nL npc : Nat) (L : List (Option Value)) (S : List Value) (σ : zSt) : Option zC :=
  match S with
  | .long v :: r => if k + 1 < nL ∧ zNL L k = true then some (npc, (L.set k (some (.long v))).set (k + 1) none, r, σ) else none
  | _ => none
def zInc (k : Nat) (c : Int) (nL pc : Nat) (L : List (Option Value)) (S : List Value) (σ : zSt) : Option zC :=
  match L[k]? with
  | some (some (.int v)) => if k < nL ∧ zNL L k = true then some (pc + 3, L.set k (some (.int (v + Int32.ofInt c))), S, σ) else none
  | _ => none
def zBI (f : Int32 → Int32 → Option Int32) (pc : Nat) (L : List (Option Value)) (S : List Value) (σ : zSt) : Option zC :=
  match S with
  | .int y :: .int x :: r => match f x y with
    | some v => some (pc + 1, L, .int v :: r, σ)
    | none => none
  | _ => none
def zBL (f : Int64 → Int64 → Value) (pc : Nat) (L : List (Option Value)) (S : List Value) (σ : zSt) : Option zC :=
  match S with
  | .long y :: .long x :: r => some (pc + 1, L, f x y :: r, σ)
  | _ => none
def zSL (f : Int64 → Int32 → Int64) (pc : Nat) (L : List (Option Value)) (S : List Value) (σ : zSt) : Option zC :=
  match S with
  | .int y :: .long x :: r => some (pc + 1, L, .long (f x y) :: r, σ)
  | _ => none
def zJ (pc : Nat) (off : Int) : Option Nat := if 0 ≤ (pc : Int) + off then some ((pc : Int) + off).toNat else none
def zGo (b : Bool) (pc : Nat) (off : Int) (L : List (Option Value)) (r : List Value) (σ : zSt) : Option zC :=
  if b = true then (match zJ pc off with
    | some q => some (q, L, r, σ)
    | none => none) else some (pc + 3, L, r, σ)
def zIf (f : Int32 → Bool) (pc : Nat) (off : Int) (L : List (Option Value)) (S : List Value) (σ : zSt) : Option zC :=
  match S with
  | .int x :: r => zGo (f x) pc off L r σ
  | _ => none
def zIc (f : Int32 → Int32 → Bool) (pc : Nat) (off : Int) (L : List (Option Value)) (S : List Value) (σ : zSt) : Option zC :=
  match S with
  | .int y :: .int x :: r => zGo (f x y) pc off L r σ
  | _ => none
def zAc (ne : Bool) (pc : Nat) (off : Int) (L : List (Option Value)) (S : List Value) (σ : zSt) : Option zC :=
  match S with
  | .ref y :: .ref x :: r => zGo (ne != (x == y)) pc off L r σ
  | _ => none
def zSw (dflt lo hi : Int) (offs : Array Int) (pc : Nat) (L : List (Option Value)) (S : List Value) (σ : zSt) : Option zC :=
  match S with
  | .int x :: r => if x.toInt < lo ∨ hi < x.toInt then (match zJ pc dflt with
      | some q => some (q, L, r, σ)
      | none => none) else (match offs[(x.toInt - lo).toNat]? with
      | some off => (match zJ pc off with
        | some q => some (q, L, r, σ)
        | none => none)
      | none => none)
  | _ => none
/-- what a field gives: a reference that is null stops the machine -/
def zgv (σ : zSt) (c k a : Nat) : Option Value := if fTy c k = 1 then some (.long (zfl σ c k a)) else if fTy c k = 2 then (match zfr σ c k a with
    | some q => some (.ref q)
    | none => none) else some (.int (zfi σ c k a))
theorem zgv_val {σ : zSt} {c k a : Nat} {v : Value} (h : zgv σ c k a = some v) : zval σ c k a = v := by
  unfold zgv at h
  unfold zval
  by_cases h1 : fTy c k = 1
  · rw [if_pos h1] at h ⊢
    cases h; rfl
  · rw [if_neg h1] at h ⊢
    by_cases h2 : fTy c k = 2
    · rw [if_pos h2] at h ⊢
      cases hq : zfr σ c k a with
      | none => rw [hq] at h; cases h
      | some q => rw [hq] at h; cases h; rfl
    · rw [if_neg h2] at h ⊢
      cases h; rfl
def zGet (c k pc : Nat) (L : List (Option Value)) (S : List Value) (σ : zSt) : Option zC :=
  match S with
  | .ref a :: r => if (ztg σ a).1 = 1 ∧ (ztg σ a).2.1 = c then (match zgv σ c k a with
      | some v => some (pc + 3, L, v :: r, σ)
      | none => none) else none
  | _ => none
/-- what a field takes -/
def zPv (σ : zSt) (c k a : Nat) (v : Value) : Option zSt :=
  match v with
  | .int w => if fTy c k = 0 ∨ (fTy c k = 3 ∧ (w = 0 ∨ w = 1)) then some (sfi σ c k a w) else none
  | .long w => if fTy c k = 1 then some (sfl σ c k a w) else none
  | .ref q => if fTy c k = 2 then some (sfr σ c k a (some q)) else none
  | _ => none
def zPutf (c k pc : Nat) (L : List (Option Value)) (S : List Value) (σ : zSt) : Option zC :=
  match S with
  | v :: .ref a :: r => if (ztg σ a).1 = 1 ∧ (ztg σ a).2.1 = c then (match zPv σ c k a v with
      | some σ' => some (pc + 3, L, r, σ')
      | none => none) else none
  | _ => none
def zIld (ty : FieldType) (pc : Nat) (L : List (Option Value)) (S : List Value) (σ : zSt) : Option zC :=
  match S with
  | .int i :: .ref a :: r => if ((ztg σ a).1 = 2 ∨ (ztg σ a).1 = 4) ∧ siteTy (ztg σ a).2.1 = ty ∧ ¬ (i < 0 ∨ (ztg σ a).2.2 ≤ i.toNatClampNeg) then some (pc + 1, L, .int (zai σ (ztg σ a).2.1 a i.toNatClampNeg) :: r, σ) else none
  | _ => none
def zIst (ty : FieldType) (pc : Nat) (L : List (Option Value)) (S : List Value) (σ : zSt) : Option zC :=
  match S with
  | .int x :: .int i :: .ref a :: r => if (ztg σ a).1 = 2 ∧ siteTy (ztg σ a).2.1 = ty ∧ ¬ (i < 0 ∨ (ztg σ a).2.2 ≤ i.toNatClampNeg) ∧ (ty = .boolean → x = 0 ∨ x = 1) then some (pc + 1, L, r, sai σ (ztg σ a).2.1 a i.toNatClampNeg x) else none
  | _ => none
def zAld (pc : Nat) (L : List (Option Value)) (S : List Value) (σ : zSt) : Option zC :=
  match S with
  | .int i :: .ref a :: r => if (ztg σ a).1 = 3 ∧ (siteTy (ztg σ a).2.1).isReference = true ∧ ¬ (i < 0 ∨ (ztg σ a).2.2 ≤ i.toNatClampNeg) then (match zar σ (ztg σ a).2.1 a i.toNatClampNeg with
      | some q => some (pc + 1, L, .ref q :: r, σ)
      | none => none) else none
  | _ => none
/-- which objects an array of references takes, by where it was made -/
def zAsg (t : Nat) (g : Nat × Nat × Nat) : Bool := g.1 == 1 && (((t == 6 || t == 7) && g.2.1 == 2) || (t == 8 && g.2.1 == 5) || (t == 11 && (g.2.1 == 0 || g.2.1 == 3 || g.2.1 == 8)))
def zAst (pc : Nat) (L : List (Option Value)) (S : List Value) (σ : zSt) : Option zC :=
  match S with
  | .ref v :: .int i :: .ref a :: r => if (ztg σ a).1 = 3 ∧ zAsg (ztg σ a).2.1 (ztg σ v) = true ∧ ¬ (i < 0 ∨ (ztg σ a).2.2 ≤ i.toNatClampNeg) then some (pc + 1, L, r, sar σ (ztg σ a).2.1 a i.toNatClampNeg (some v)) else none
  | .null :: .int i :: .ref a :: r => if (ztg σ a).1 = 3 ∧ (siteTy (ztg σ a).2.1).isReference = true ∧ ¬ (i < 0 ∨ (ztg σ a).2.2 ≤ i.toNatClampNeg) then some (pc + 1, L, r, sar σ (ztg σ a).2.1 a i.toNatClampNeg none) else none
  | _ => none
def zLn (pc : Nat) (L : List (Option Value)) (S : List Value) (σ : zSt) : Option zC :=
  match S with
  | .ref a :: r => if (ztg σ a).1 = 2 ∨ (ztg σ a).1 = 3 ∨ (ztg σ a).1 = 4 then some (pc + 1, L, .int (Int32.ofNat (ztg σ a).2.2) :: r, σ) else if (ztg σ a).1 = 5 then some (pc + 1, L, .int 0 :: r, σ) else none
  | _ => none
def zNa (x pc : Nat) (L : List (Option Value)) (S : List Value) (σ : zSt) : Option zC :=
  match S with
  | .int n :: r => if ¬ n < 0 ∧ n.toNatClampNeg * componentBytes (siteTy x) ≤ 536870912 then some (pc + 2, L, .ref (znx σ) :: r, zNewI σ x n.toNatClampNeg) else none
  | _ => none
def zAna (x pc : Nat) (L : List (Option Value)) (S : List Value) (σ : zSt) : Option zC :=
  match S with
  | .int n :: r => if ¬ n < 0 ∧ n.toNatClampNeg * 4 ≤ 536870912 then some (pc + 3, L, .ref (znx σ) :: r, zNewR σ x n.toNatClampNeg) else none
  | _ => none
def zMna (pc : Nat) (L : List (Option Value)) (S : List Value) (σ : zSt) : Option zC :=
  match S with
  | .int k :: .int n :: r => if ¬ n < 0 ∧ ¬ k < 0 ∧ n.toNatClampNeg * 4 ≤ 536870912 ∧ k.toNatClampNeg * 4 ≤ 536870912 ∧ k.toNatClampNeg ≤ 536870912 then some (pc + 4, L, .ref (znx σ) :: r, zNewM σ n.toNatClampNeg k.toNatClampNeg) else none
  | _ => none
def zCk (c pc : Nat) (L : List (Option Value)) (S : List Value) (σ : zSt) : Option zC :=
  match S with
  | .ref a :: r => if (ztg σ a).1 = 1 ∧ (ztg σ a).2.1 = c then some (pc + 3, L, .ref a :: r, σ) else none
  | _ => none
def zDup (pc : Nat) (L : List (Option Value)) (S : List Value) (σ : zSt) : Option zC :=
  match S with
  | v :: r => if v.category = 1 then some (pc + 1, L, v :: v :: r, σ) else none
  | _ => none
def zPop (pc : Nat) (L : List (Option Value)) (S : List Value) (σ : zSt) : Option zC :=
  match S with
  | v :: r => if v.category = 1 then some (pc + 1, L, r, σ) else none
  | _ => none
def zDupx (pc : Nat) (L : List (Option Value)) (S : List Value) (σ : zSt) : Option zC :=
  match S with
  | v :: w :: r => if v.category = 1 ∧ w.category = 1 then some (pc + 1, L, v :: w :: v :: r, σ) else none
  | _ => none
def zDup2 (pc : Nat) (L : List (Option Value)) (S : List Value) (σ : zSt) : Option zC :=
  match S with
  | v :: w :: r => if v.category = 1 ∧ w.category = 1 then some (pc + 1, L, v :: w :: v :: w :: r, σ) else none
  | _ => none
def zEl (σ : zSt) : Option Nat → Bool
  | some q => zAsg 11 (ztg σ q)
  | none => true
/-- System.arraycopy between lists' arrays -/
def zCpy (pc : Nat) (L : List (Option Value)) (S : List Value) (σ : zSt) : Option zC :=
  match S with
  | .int n :: .int dp :: .ref a :: .int sp :: .ref b :: r =>
    if ((ztg σ a).1 = 3 ∧ (ztg σ a).2.1 = 11 ∧ (ztg σ b).1 = 3 ∧ (ztg σ b).2.1 = 11) ∧ (¬ sp < 0 ∧ ¬ dp < 0 ∧ ¬ n < 0) ∧ sp.toNatClampNeg + n.toNatClampNeg ≤ (ztg σ b).2.2 ∧ dp.toNatClampNeg + n.toNatClampNeg ≤ (ztg σ a).2.2 ∧ (∀ i, i < n.toNatClampNeg → zEl σ (zar σ 11 b (sp.toNatClampNeg + i)) = true) ∧ zW r ≤ 8 then some (pc + 3, L, r, sarW σ 11 a (va_cpy (zar σ 11 b) (zar σ 11 a) sp.toNatClampNeg dp.toNatClampNeg n.toNatClampNeg)) else none
  | _ => none
def zGc (pc : Nat) (L : List (Option Value)) (S : List Value) (σ : zSt) : Option zC :=
  match S with
  | .ref a :: r => if (ztg σ a).1 = 3 ∧ (ztg σ a).2.1 = 11 ∧ zW r ≤ 8 then some (pc + 3, L, .ref (zmi σ) :: r, σ) else none
  | _ => none
def zOi (pc : Nat) (L : List (Option Value)) (S : List Value) (σ : zSt) : Option zC :=
  match S with
  | .ref _ :: r => if zW r ≤ 8 then some (pc + 3, L, r, σ) else none
  | _ => none
def zMm (mx : Bool) (pc : Nat) (L : List (Option Value)) (S : List Value) (σ : zSt) : Option zC :=
  match S with
  | .int y :: .int x :: r => if zW r ≤ 8 then some (pc + 3, L, .int (if mx = true then (if x < y then y else x) else (if y < x then y else x)) :: r, σ) else none
  | _ => none
def zDiv (f : Int32 → Int32 → Int32) : Int32 → Int32 → Option Int32 := fun x y => if y = 0 then none else some (f x y)
/-- an instruction that neither calls nor returns -/
def z1 (i : Instr) (x y : Nat) (z : Int) (nL pc : Nat) (L : List (Option Value)) (S : List Value) (σ : zSt) : Option zC :=
  match i with
  | .iconst n => some (pc + 1, L, .int (Int32.ofInt n) :: S, σ)
  | .bipush n => some (pc + 2, L, .int ((Int8.ofInt n).toInt32) :: S, σ)
  | .sipush n => some (pc + 3, L, .int ((Int16.ofInt n).toInt32) :: S, σ)
  | .aconst_null => some (pc + 1, L, .null :: S, σ)
  | .lconst n => some (pc + 1, L, .long (Int64.ofNat (n : Nat)) :: S, σ)
  | .ldc _ => if x = 0 then some (pc + 2, L, .int (Int32.ofInt z) :: S, σ) else some (pc + 2, L, .ref (zmi σ) :: S, σ)
  | .ldc2_w _ => some (pc + 3, L, .long (Int64.ofInt z) :: S, σ)
  | .iload k => zLd zisI k (pc + 2) L S σ
  | .iload_n k => zLd zisI (k : Nat) (pc + 1) L S σ
  | .lload k => zLd zisL k (pc + 2) L S σ
  | .lload_n k => zLd zisL (k : Nat) (pc + 1) L S σ
  | .aload k => zLd zisA k (pc + 2) L S σ
  | .aload_n k => zLd zisA (k : Nat) (pc + 1) L S σ
  | .istore k => zSto zisI k nL (pc + 2) L S σ
  | .istore_n k => zSto zisI (k : Nat) nL (pc + 1) L S σ
  | .astore k => zSto zisA k nL (pc + 2) L S σ
  | .astore_n k => zSto zisA (k : Nat) nL (pc + 1) L S σ
  | .lstore k => zStoL k nL (pc + 2) L S σ
  | .lstore_n k => zStoL (k : Nat) nL (pc + 1) L S σ
  | .iinc k c => zInc k c nL pc L S σ
  | .iadd => zBI (fun a b => some (a + b)) pc L S σ
  | .isub => zBI (fun a b => some (a - b)) pc L S σ
  | .imul => zBI (fun a b => some (a * b)) pc L S σ
  | .iand => zBI (fun a b => some (a &&& b)) pc L S σ
  | .ixor => zBI (fun a b => some (a ^^^ b)) pc L S σ
  | .ishr => zBI (fun a b => some (a >>> (b &&& 31))) pc L S σ
  | .idiv => zBI (zDiv (fun a b => a / b)) pc L S σ
  | .irem => zBI (zDiv (fun a b => a - a / b * b)) pc L S σ
  | .ladd => zBL (fun a b => .long (a + b)) pc L S σ
  | .lsub => zBL (fun a b => .long (a - b)) pc L S σ
  | .lmul => zBL (fun a b => .long (a * b)) pc L S σ
  | .land => zBL (fun a b => .long (a &&& b)) pc L S σ
  | .lor => zBL (fun a b => .long (a ||| b)) pc L S σ
  | .lxor => zBL (fun a b => .long (a ^^^ b)) pc L S σ
  | .lcmp => zBL (fun a b => .int (lg_cmp a b)) pc L S σ
  | .lshl => zSL (fun a b => a <<< (b.toInt64 &&& 63)) pc L S σ
  | .lshr => zSL (fun a b => a >>> (b.toInt64 &&& 63)) pc L S σ
  | .lushr => zSL (fun a b => (a.toUInt64 >>> (b.toInt64.toUInt64 &&& Int64.toUInt64 63)).toInt64) pc L S σ
  | .i2l => (match S with
    | .int v :: r => some (pc + 1, L, .long v.toInt64 :: r, σ)
    | _ => none)
  | .l2i => (match S with
    | .long v :: r => some (pc + 1, L, .int v.toInt32 :: r, σ)
    | _ => none)
  | .ifCond .eq off => zIf (fun a => decide (a = 0)) pc off L S σ
  | .ifCond .ne off => zIf (fun a => decide (¬ a = 0)) pc off L S σ
  | .ifCond .lt off => zIf (fun a => decide (a < 0)) pc off L S σ
  | .ifCond .ge off => zIf (fun a => decide (0 ≤ a)) pc off L S σ
  | .ifCond .gt off => zIf (fun a => decide (0 < a)) pc off L S σ
  | .ifCond .le off => zIf (fun a => decide (a ≤ 0)) pc off L S σ
  | .if_icmp .eq off => zIc (fun a b => decide (a = b)) pc off L S σ
  | .if_icmp .ne off => zIc (fun a b => decide (¬ a = b)) pc off L S σ
  | .if_icmp .lt off => zIc (fun a b => decide (a < b)) pc off L S σ
  | .if_icmp .ge off => zIc (fun a b => decide (b ≤ a)) pc off L S σ
  | .if_icmp .gt off => zIc (fun a b => decide (b < a)) pc off L S σ
  | .if_icmp .le off => zIc (fun a b => decide (a ≤ b)) pc off L S σ
  | .if_acmp .eq off => zAc false pc off L S σ
  | .if_acmp .ne off => zAc true pc off L S σ
  | .goto off => (match zJ pc off with
    | some q => some (q, L, S, σ)
    | none => none)
  | .tableswitch d lo hi offs => zSw d lo hi offs pc L S σ
  | .dup => zDup pc L S σ
  | .pop => zPop pc L S σ
  | .dup_x1 => zDupx pc L S σ
  | .dup2 => zDup2 pc L S σ
  | .getfield _ => zGet x y pc L S σ
  | .putfield _ => zPutf x y pc L S σ
  | .iaload => zIld .int pc L S σ
  | .baload => zIld .boolean pc L S σ
  | .iastore => zIst .int pc L S σ
  | .bastore => zIst .boolean pc L S σ
  | .aaload => zAld pc L S σ
  | .aastore => zAst pc L S σ
  | .arraylength => zLn pc L S σ
  | .new _ => some (pc + 3, L, .ref (znx σ) :: S, zNew σ x)
  | .newarray _ => zNa x pc L S σ
  | .anewarray _ => zAna x pc L S σ
  | .multianewarray _ _ => zMna pc L S σ
  | .checkcast _ => zCk x pc L S σ
  | .getstatic _ => some (pc + 3, L, .ref (ze0 σ) :: S, σ)
  | .invokestatic _ => if y = 6 then zCpy pc L S σ else if y = 8 then zMm true pc L S σ else if y = 9 then zMm false pc L S σ else none
  | .invokevirtual _ => if y = 7 then zGc pc L S σ else none
  | .invokespecial _ => if y = 5 then zOi pc L S σ else none
  | _ => none
def zArgs : List Value → List (Option Value)
  | [] => []
  | v :: t => if v.category = 2 then some v :: none :: zArgs t else some v :: zArgs t
def zL0 (m : Nat) (vs : List Value) : List (Option Value) := zArgs vs ++ List.replicate (mL m - (zArgs vs).length) none
/-- a call's arguments, the receiver first, and what stays on the stack -/
def zCa (x y n : Nat) (S : List Value) (σ : zSt) : Option (List Value × List Value) :=
  if n ≤ S.length then (if y = 1 ∨ y = 4 then some ((S.take n).reverse, S.drop n) else (match S.drop n with
    | .ref b :: r => if y = 0 → (ztg σ b).1 = 1 ∧ (ztg σ b).2.1 = mC x then some (.ref b :: (S.take n).reverse, r) else none
    | _ => none)) else none
def zKd (i : Instr) (y : Nat) : Nat :=
  match i with
  | .invokevirtual _ | .invokespecial _ | .invokestatic _ => if y < 5 then 1 else 0
  | .ireturn | .lreturn | .areturn | .return_ => 2
  | _ => 0
def zRet (i : Instr) (ret : Option FieldType) (S : List Value) (σ : zSt) : Option (Option Value × zSt) :=
  match i, S with
  | .ireturn, [.int v] => if ret = some .int ∨ (ret = some .boolean ∧ (v = 0 ∨ v = 1)) then some (some (.int v), σ) else none
  | .lreturn, [.long v] => if ret = some .long then some (some (.long v), σ) else none
  | .areturn, [.ref a] => (match ret with
    | some (.object _) | some (.array _) => some (some (.ref a), σ)
    | _ => none)
  | .return_, [] => if ret = none then some (none, σ) else none
  | _, _ => none
def zRun : Nat → Nat → Nat → List (Option Value) → List Value → zSt → Option (Option Value × zSt)
  | 0, _, _, _, _, _ => none
  | n + 1, m, pc, L, S, σ =>
    match zcode m pc with
    | none => none
    | some (i, x, y, z) =>
      match zKd i y with
      | 0 => (match z1 i x y z (mL m) pc L S σ with
        | none => none
        | some q => zRun n m q.1 q.2.1 q.2.2.1 q.2.2.2)
      | 1 => (match zCa x y z.toNat S σ with
        | none => none
        | some q => if zW q.2 ≤ 8 ∧ (zArgs q.1).length ≤ mL x then (match zRun n x 0 (zL0 x q.1) [] σ with
          | none => none
          | some u => zRun n m (pc + 3) L (u.1.toList ++ q.2) u.2) else none)
      | _ => zRet i (mR m) S σ
end
section
/-! WHAT THE MACHINE OVER FIELDS SAYS OF THE JVM's HEAP -/
theorem zip_mem {α β : Type} : ∀ {l : List α} {k : List β}, l.length = k.length → ∀ {q : α}, q ∈ l → ∃ w, (q, w) ∈ l.zip k
  | [], _, _, _, h => absurd h List.not_mem_nil
  | a :: l, [], e, _, _ => by cases e
  | a :: l, b :: k, e, q, h => by
    rcases List.mem_cons.mp h with rfl | h
    · exact ⟨b, by simp⟩
    · obtain ⟨w, hw⟩ := zip_mem (l := l) (k := k) (by simpa using e) h
      exact ⟨w, by simp [hw]⟩
theorem any_mem {α : Type} {l : List α} {p : α → Bool} (h : l.any p = true) : ∃ q ∈ l, p q = true := by simpa using h
def cTyl : List (Nat → FieldType) := [tyX0, tyX1, tyX2, tyX3, tyX4, tyX5, tyX6, tyX7, tyX8, tyX9, tyX10, tyX11, tyX12, tyJx4a65c]
def cTy (c k : Nat) : FieldType := (cTyl.getD c (fun _ => .int)) k
theorem cls_ok : ∀ c, c < 14 → classes[c]? = some (cRow c) ∧ (cRow c).1 = cNm c := by
  intro c h
  rcases (show c = 0 ∨ c = 1 ∨ c = 2 ∨ c = 3 ∨ c = 4 ∨ c = 5 ∨ c = 6 ∨ c = 7 ∨ c = 8 ∨ c = 9 ∨ c = 10 ∨ c = 11 ∨ c = 12 ∨ c = 13 by omega) with rfl | rfl | rfl | rfl | rfl | rfl | rfl | rfl | rfl | rfl | rfl | rfl | rfl | rfl <;> exact ⟨rfl, rfl⟩
theorem lay_ok : ∀ c, c < 14 → ∀ w ∈ u_ws (cRow c).1 (cRow c).2.1 (cRow c).2.2, w ∈ bigW := by
  intro c h
  rcases (show c = 0 ∨ c = 1 ∨ c = 2 ∨ c = 3 ∨ c = 4 ∨ c = 5 ∨ c = 6 ∨ c = 7 ∨ c = 8 ∨ c = 9 ∨ c = 10 ∨ c = 11 ∨ c = 12 ∨ c = 13 by omega) with rfl | rfl | rfl | rfl | rfl | rfl | rfl | rfl | rfl | rfl | rfl | rfl | rfl | rfl
  · exact lay_0
  · exact lay_1
  · exact lay_2
  · exact lay_3
  · exact lay_4
  · exact lay_5
  · exact lay_6
  · exact lay_7
  · exact lay_8
  · exact lay_9
  · exact lay_10
  · exact lay_11
  · exact lay_12
  · exact lay_13
theorem cty_ok : ∀ c, c < 14 → ∀ k, k < (cRow c).2.2 → parseFieldDescriptor ((cRow c).2.1 k).2.2.1 = some (cTy c k) := by decide +kernel
theorem nm_ok : ∀ c, c < 14 → ∀ a, a < (cRow c).2.2 → ∀ b, b < (cRow c).2.2 → a ≠ b → ((cRow c).2.1 a).2.1 ≠ ((cRow c).2.1 b).2.1 := by decide +kernel
theorem fty_ok : ∀ c, c < 14 → ∀ k, k < (cRow c).2.2 → (fTy c k = 0 ∧ cTy c k = .int) ∨ (fTy c k = 1 ∧ cTy c k = .long) ∨ (fTy c k = 3 ∧ cTy c k = .boolean) ∨ (fTy c k = 2 ∧ (cTy c k).isReference = true) := by decide +kernel
abbrev zG : Type := va_G × (Nat → ClassId)
def gAt (G : zG) (lo : Nat) (U : State) (σ : zSt) (H : Heap) (a : Nat) : Prop :=
  ((ztg σ a).1 = 1 → (ztg σ a).2.1 < 14 ∧ t_OB a (G.1.1 (ztg σ a).2.1) (cRow (ztg σ a).2.1).2.2 (G.1.2 (ztg σ a).2.1) H (fun k => zval σ (ztg σ a).2.1 k a) ∧ lo ≤ a) ∧
  ((ztg σ a).1 = 2 → H[a]? = some (arrV (G.2 (ztg σ a).2.1) (ztg σ a).2.2 (fun j => .int (zai σ (ztg σ a).2.1 a j))) ∧ lo ≤ a) ∧
  ((ztg σ a).1 = 3 → H[a]? = some (arrV (G.2 (ztg σ a).2.1) (ztg σ a).2.2 (fun j => va_rf (zar σ (ztg σ a).2.1 a j))) ∧ lo ≤ a) ∧
  ((ztg σ a).1 = 4 → siteTy (ztg σ a).2.1 = .int ∧ va_X a (ztg σ a).2.2 (zai σ (ztg σ a).2.1 a) U H ∧ ¬ lo ≤ a) ∧
  ((ztg σ a).1 = 5 → va_T (.object "java/lang/Object") a 0 (fun _ => .null) (fun q => lo ≤ q) U H)
def gRep (G : zG) (lo : Nat) (U : State) (σ : zSt) (H : Heap) : Prop := ∀ a, gAt G lo U σ H a
def gSame (σ σ' : zSt) (b : Nat) : Prop := ztg σ' b = ztg σ b ∧ (∀ c k, zval σ' c k b = zval σ c k b) ∧ (∀ t j, zai σ' t b j = zai σ t b j) ∧ (∀ t j, zar σ' t b j = zar σ t b j)
theorem gSame.rf (σ : zSt) (b : Nat) : gSame σ σ b := ⟨rfl, fun _ _ => rfl, fun _ _ => rfl, fun _ _ => rfl⟩
theorem gAt.kept {G : zG} {lo : Nat} {U : State} {σ σ' : zSt} {H H' : Heap} {b : Nat} (h : gAt G lo U σ H b) (hs : gSame σ σ' b) (hq : b < H.size → H'[b]? = H[b]?) : gAt G lo U σ' H' b := by
  obtain ⟨s1, s2, s3, s4⟩ := hs
  unfold gAt
  rw [s1]
  refine ⟨fun ht => ?_, fun ht => ?_, fun ht => ?_, fun ht => ?_, fun ht => ?_⟩
  · obtain ⟨h1, h2, h3⟩ := h.1 ht
    obtain ⟨cell, q1, q2⟩ := h2
    have hb : b < H.size := (Array.getElem?_eq_some_iff.mp q1).1
    refine ⟨h1, ⟨cell, by rw [hq hb]; exact q1, q2.1, q2.2.1, fun k hk => ?_⟩, h3⟩
    show cell.slots[_]? = some (zval σ' (ztg σ b).2.1 k b)
    rw [s2]
    exact q2.2.2 k hk
  · obtain ⟨h1, h2⟩ := h.2.1 ht
    have hb : b < H.size := (Array.getElem?_eq_some_iff.mp h1).1
    refine ⟨?_, h2⟩
    rw [hq hb, h1]
    congr 2
    funext j
    rw [s3]
  · obtain ⟨h1, h2⟩ := h.2.2.1 ht
    have hb : b < H.size := (Array.getElem?_eq_some_iff.mp h1).1
    refine ⟨?_, h2⟩
    rw [hq hb, h1]
    congr 2
    funext j
    rw [s4]
  · obtain ⟨h0, ⟨scr, h1, h2, h3, h4, h5⟩, h6⟩ := h.2.2.2.1 ht
    have hb : b < H.size := (Array.getElem?_eq_some_iff.mp h1).1
    exact ⟨h0, ⟨scr, by rw [hq hb]; exact h1, h2, h3, h4, fun j hj => by rw [s3]; exact h5 j hj⟩, h6⟩
  · obtain ⟨cell, h1, h2⟩ := h.2.2.2.2 ht
    have hb : b < H.size := (Array.getElem?_eq_some_iff.mp h1).1
    exact ⟨cell, by rw [hq hb]; exact h1, h2⟩
theorem gRep.one {G : zG} {lo : Nat} {U : State} {σ σ' : zSt} {H H' : Heap} {a : Nat} (h : gRep G lo U σ H) (ha : gAt G lo U σ' H' a) (ho : ∀ b, b ≠ a → gSame σ σ' b) (oq : ∀ q, q ≠ a → q < H.size → H'[q]? = H[q]?) : gRep G lo U σ' H' := by
  intro b
  by_cases e : b = a
  · rw [e]; exact ha
  · exact (h b).kept (ho b e) (oq b e)
theorem gAt.moved {G : zG} {lo : Nat} {u U : State} {σ : zSt} {H : Heap} {b : Nat} (hvm : u.vm.Alike U.vm) (h : gAt G lo u σ H b) : gAt G lo U σ H b :=
  ⟨h.1, h.2.1, h.2.2.1, fun ht => ⟨(h.2.2.2.1 ht).1, (h.2.2.2.1 ht).2.1.moved hvm, (h.2.2.2.1 ht).2.2⟩, fun ht => (h.2.2.2.2 ht).moved hvm⟩
theorem gRep.moved {G : zG} {lo : Nat} {u U : State} {σ : zSt} {H : Heap} (hvm : u.vm.Alike U.vm) (h : gRep G lo u σ H) : gRep G lo U σ H := fun a => (h a).moved hvm
def gK (G : zG) (U : State) : Prop := va_K G.1 classes [] U ∧ ∀ t, ArrOfT U (G.2 t) (siteTy t) ∧ va_RA U (G.2 t) (siteTy t)
theorem gK.moved {G : zG} {u U : State} (hvm : u.vm.Alike U.vm) (h : gK G u) : gK G U := ⟨h.1.moved hvm, fun t => ⟨arrOfT_moved hvm (h.2 t).1, (h.2 t).2.moved hvm⟩⟩
/-- an array class over arrays of ints, kept over the machine's own steps -/
def zAOA (U : State) : Prop := (Cond.arrayOver (.array .int)).before #[] U = true
def zNest (U : State) : Prop := ∀ q ∈ zPI, q.2.2.2.1 = 3 ∨ q.2.2.2.1 = 4 → va_Nw (.methodLinkNest (cNm q.1) q.2.1 (mY q.2.2.1) "BuildCache") U
theorem zNest.warm {s U : State} (hW : s.WarmedH U.vm) (h : zNest s) : zNest U := fun q hq hk => va_Nw.warmM hW (h q hq hk)
def zCst (U : State) : Prop := ∀ c, c = 0 ∨ c = 3 ∨ c = 8 → va_Nw (.castable (cNm c) "java/lang/Object") U
theorem zCst.warm {s U : State} (hW : s.WarmedH U.vm) (h : zCst s) : zCst U := fun c hc => va_Nw.warmC hW (h c hc)
def gS (lo e0 mi : Nat) (U : State) : Prop := va_Z "java/util/ArrayList" "DEFAULTCAPACITY_EMPTY_ELEMENTDATA" "[Ljava/lang/Object;" (.ref e0) (fun q => lo ≤ q) U U.heap ∧ va_Mi "[Ljava/lang/Object;" mi U ∧ va_Dc U ∧ zNest U ∧ zCst U ∧ (va_AO "BuildCache$Content" U ∧ va_AO "BuildCache$Key" U ∧ va_AO "java/lang/Object" U) ∧ zAOA U
theorem arrOver_moved {C : FieldType} {u U : State} (hvm : u.vm.Alike U.vm) (hC : C = .array .int) (h : (Cond.arrayOver C).before #[] u = true) : (Cond.arrayOver C).before #[] U = true := by
  subst hC
  obtain ⟨comp, c, k, h1, h2, h3, h4, h5⟩ := arrayOverA_spec h
  obtain ⟨k', hk', he⟩ := hvm.2.2 _ _ h3
  have e1 := va_idx_bare U.vm comp
  have e2 := va_idx_bare u.vm comp
  have e3 : u.vm.bare = U.vm.bare := by first | exact hvm.bare_eq | exact hvm.bare_eq.symm
  rw [e3] at e2
  have hi := (e1.symm.trans e2).trans h2
  have hkind : k'.kind = .array comp (.array .int) := by rw [he]; exact h4
  have f1 : U.vm.findClass (FieldType.array .int).toString = some comp := by rw [hvm.findClass]; exact h1
  have f2 : U.vm.findClass ("[" ++ (FieldType.array .int).toString) = some c := by rw [hvm.findClass]; exact h5
  unfold Cond.before Cond.holds
  simp only [Cond.value]
  rw [f1, Option.bind_some]
  refine (congrArg (fun o : Option Nat => (o.bind (fun c => (U.vm.classes[c]?).map fun (k : Class) => match k.kind with | .array _ ty => decide (ty = FieldType.array .int) && decide (U.vm.findClass ("[" ++ (FieldType.array .int).toString) = some c) | _ => false) == some true)) hi).trans ?_
  simp [hk', hkind, f2]
theorem gS.to {lo e0 mi : Nat} {s U : State} {H : Heap} {locs : List Loc} (h : gS lo e0 mi s) (hU : U.heap = H) (hS : va_S (fun q => lo ≤ q) s.heap H locs) (hW : s.WarmedH U.vm) : gS lo e0 mi U := by
  obtain ⟨h1, h2, h3, h4, h5, ⟨h6, h7, h8⟩, h9⟩ := h
  refine ⟨?_, h2.moved hW.alike, h3.moved hW.alike, h4.warm hW, h5.warm hW, ⟨h6.moved hW.alike, h7.moved hW.alike, h8.moved hW.alike⟩, arrOver_moved hW.alike rfl h9⟩
  rw [hU]
  exact (h1.moved hW.alike).kept (fun a g1 g2 => hS.2.1 a g1 g2)
/-- the locals -/
def zLH (ls : Array Slot) (nL : Nat) (L : List (Option Value)) : Prop := ls.size = nL ∧ lv_wf ls ∧ ∀ (i : Nat) (v : Value), L[i]? = some (some v) → ls[i]? = some (Slot.val v)
def zPr : Nat → List (Option Value) → List (Nat × Value)
  | _, [] => []
  | i, none :: t => zPr (i + 1) t
  | i, some v :: t => (i, v) :: zPr (i + 1) t
theorem zPr_mem : ∀ {L : List (Option Value)} {i j : Nat} {v : Value}, (j, v) ∈ zPr i L ↔ i ≤ j ∧ L[j - i]? = some (some v)
  | [], i, j, v => by simp [zPr]
  | none :: t, i, j, v => by
    rw [zPr, zPr_mem]
    constructor
    · rintro ⟨h1, h2⟩
      refine ⟨by omega, ?_⟩
      rw [show j - i = (j - (i + 1)) + 1 by omega, List.getElem?_cons_succ]
      exact h2
    · rintro ⟨h1, h2⟩
      by_cases e : j = i
      · subst e; simp at h2
      · refine ⟨by omega, ?_⟩
        rw [show j - i = (j - (i + 1)) + 1 by omega, List.getElem?_cons_succ] at h2
        exact h2
  | some w :: t, i, j, v => by
    rw [zPr, List.mem_cons, zPr_mem]
    constructor
    · rintro (h | ⟨h1, h2⟩)
      · cases h; simp
      · refine ⟨by omega, ?_⟩
        rw [show j - i = (j - (i + 1)) + 1 by omega, List.getElem?_cons_succ]
        exact h2
    · rintro ⟨h1, h2⟩
      by_cases e : j = i
      · subst e
        simp at h2
        subst h2
        exact Or.inl rfl
      · refine Or.inr ⟨by omega, ?_⟩
        rw [show j - i = (j - (i + 1)) + 1 by omega, List.getElem?_cons_succ] at h2
        exact h2
theorem zLH.has {ls : Array Slot} {nL : Nat} {L : List (Option Value)} (h : zLH ls nL L) : lv_has ls nL (zPr 0 L) :=
  ⟨h.1, h.2.1, fun q hq => h.2.2 q.1 q.2 (by simpa using (zPr_mem.mp (show (q.1, q.2) ∈ zPr 0 L from hq)).2)⟩
theorem zLH.at {ls : Array Slot} {nL : Nat} {L : List (Option Value)} (h : zLH ls nL L) {i : Nat} {v : Value} (hi : L[i]? = some (some v)) : ls[i]? = some (Slot.val v) := h.2.2 i v hi
theorem zNL_at {L : List (Option Value)} {k j : Nat} {w : Value} (h : zNL L k = true) (hj : j + 1 = k) (hw : L[j]? = some (some w)) : w.category ≠ 2 := by
  subst hj
  have h2 : (match L[j]? with
    | some (some v) => v.category == 1
    | _ => true) = true := h
  rw [hw] at h2
  intro e
  simp [e] at h2
theorem zLH.set1 {ls' : Array Slot} {nL k : Nat} {L : List (Option Value)} {v : Value} (hk : zNL L k = true) (h : lv_has ls' nL ((k, v) :: (zPr 0 L).filter (fun q => !(q.1 == k) && !(q.1 + 1 == k && q.2.category == 2)))) : zLH ls' nL (L.set k (some v)) := by
  refine ⟨h.1, h.2.1, fun i w hi => ?_⟩
  by_cases e : i = k
  · subst e
    have hl : i < L.length := by
      have := (List.getElem?_eq_some_iff.mp hi).1
      simpa using this
    rw [List.getElem?_set_self hl] at hi
    cases hi
    exact h.2.2 (i, v) List.mem_cons_self
  · rw [List.getElem?_set_ne (Ne.symm e)] at hi
    refine h.2.2 (i, w) (List.mem_cons_of_mem _ (List.mem_filter.mpr ⟨zPr_mem.mpr ⟨Nat.zero_le _, hi⟩, ?_⟩))
    have h1 : ¬ (i + 1 = k ∧ w.category = 2) := fun z => zNL_at hk z.1 hi z.2
    simp only [Bool.and_eq_true, Bool.not_eq_true', beq_eq_false_iff_ne, Bool.and_eq_false_iff, ne_eq]
    exact ⟨e, Classical.byContradiction fun z => h1 (by simp at z; exact z)⟩
theorem zLH.set2 {ls' : Array Slot} {nL k : Nat} {L : List (Option Value)} {v : Value} (hk : zNL L k = true) (h : lv_has ls' nL ((k, v) :: (zPr 0 L).filter (fun q => !(q.1 == k) && (!(q.1 == k + 1) && !(q.1 + 1 == k && q.2.category == 2))))) : zLH ls' nL ((L.set k (some v)).set (k + 1) none) := by
  refine ⟨h.1, h.2.1, fun i w hi => ?_⟩
  by_cases e1 : i = k + 1
  · subst e1
    have hl : k + 1 < (L.set k (some v)).length := (by
      have := (List.getElem?_eq_some_iff.mp hi).1
      simpa using this)
    rw [List.getElem?_set_self hl] at hi
    cases hi
  rw [List.getElem?_set_ne (Ne.symm e1)] at hi
  by_cases e : i = k
  · subst e
    have hl : i < L.length := by
      have := (List.getElem?_eq_some_iff.mp hi).1
      simpa using this
    rw [List.getElem?_set_self hl] at hi
    cases hi
    exact h.2.2 (i, v) List.mem_cons_self
  · rw [List.getElem?_set_ne (Ne.symm e)] at hi
    refine h.2.2 (i, w) (List.mem_cons_of_mem _ (List.mem_filter.mpr ⟨zPr_mem.mpr ⟨Nat.zero_le _, hi⟩, ?_⟩))
    have h1 : ¬ (i + 1 = k ∧ w.category = 2) := fun z => zNL_at hk z.1 hi z.2
    simp only [Bool.and_eq_true, Bool.not_eq_true', beq_eq_false_iff_ne, Bool.and_eq_false_iff, ne_eq]
    exact ⟨e, e1, Classical.byContradiction fun z => h1 (by simp at z; exact z)⟩
theorem zArgs_at : ∀ (vs : List Value) (b i : Nat) (v : Value), (zArgs vs)[i]? = some (some v) → (b + i, v) ∈ lv_args b vs
  | [], b, i, v, h => by simp [zArgs] at h
  | w :: t, b, i, v, h => by
    unfold zArgs at h
    unfold lv_args
    by_cases hc : w.category = 2
    · rw [if_pos hc] at h ⊢
      match i, h with
      | 0, h => simp at h; rw [h]; exact List.mem_cons_self
      | 1, h => simp at h
      | i + 2, h =>
        rw [List.getElem?_cons_succ, List.getElem?_cons_succ] at h
        have := zArgs_at t (b + 2) i v h
        rw [show b + (i + 2) = b + 2 + i by omega]
        exact List.mem_cons_of_mem _ this
    · rw [if_neg hc] at h ⊢
      match i, h with
      | 0, h => simp at h; rw [h]; exact List.mem_cons_self
      | i + 1, h =>
        rw [List.getElem?_cons_succ] at h
        have := zArgs_at t (b + 1) i v h
        rw [show b + (i + 1) = b + 1 + i by omega]
        exact List.mem_cons_of_mem _ this
theorem zArgs_len : ∀ (vs : List Value), (zArgs vs).length = (lg_sl vs).length
  | [] => rfl
  | w :: t => by
    have h := zArgs_len t
    unfold zArgs
    by_cases hc : w.category = 2
    · rw [if_pos hc]
      cases w <;> simp_all [lg_sl, Value.category]
    · rw [if_neg hc]
      cases w <;> simp_all [lg_sl, Value.category]
theorem zLH_entry {m : Nat} {vs : List Value} (h : (zArgs vs).length ≤ mL m) : zLH ((lg_sl vs ++ List.replicate (mL m - (lg_sl vs).length) Slot.unset).toArray) (mL m) (zL0 m vs) := by
  have h1 := lv_entry vs (n := mL m) (by rw [← zArgs_len]; exact h)
  refine ⟨h1.1, h1.2.1, fun i v hi => ?_⟩
  unfold zL0 at hi
  by_cases hl : i < (zArgs vs).length
  · rw [List.getElem?_append_left hl] at hi
    have := zArgs_at vs 0 i v hi
    rw [Nat.zero_add] at this
    exact h1.2.2 _ this
  · rw [List.getElem?_append_right (by omega)] at hi
    have := List.mem_of_getElem? hi
    rw [List.mem_replicate] at this
    cases this.2
end
section
/-! ONE INSTRUCTION: the machine over fields and the JVM do the same -/
section ZS
variable {p : Program} {l : Launch} {e : Env} {R : Room} {s : State} {m : MethodId} {args : Array Value} {below : List Frame} {meth : Method} {c : Code} {H : Heap} {locs : List Loc} {cells slots : Nat} {Q : State → Prop}
variable {cc : ByteArray} {pc : Nat} {ls : Array Slot} {rest : List Value} {G : zG} {lo : Nat} {σ σ' : zSt} {a : Nat} {H0 : Heap}
theorem gRep.obj (hG : gRep G lo s σ H) (h1 : (ztg σ a).1 = 1) : (ztg σ a).2.1 < 14 ∧ t_OB a (G.1.1 (ztg σ a).2.1) (cRow (ztg σ a).2.1).2.2 (G.1.2 (ztg σ a).2.1) H (fun k => zval σ (ztg σ a).2.1 k a) ∧ lo ≤ a := (hG a).1 h1
theorem gK.cls (hK : gK G s) {ci : Nat} (hc : ci < 14) : u_Kn s (cRow ci).1 (cRow ci).2.1 (cRow ci).2.2 (G.1.1 ci) (G.1.2 ci) := hK.1.1 ci _ (cls_ok ci hc).1
theorem s_get (hexec : p.tables.exec = Jvm.exec) (hb : c.code = cc) (hts : ∀ w ∈ bigW, w.before args s = true) {own ref : String} {n ci k : Nat} (hown : s.vm.findClass own = some m.cls) (hK : gK G s) (hG : gRep G lo s σ H) (hk : k < (cRow ci).2.2)
    (hlink : (Cond.fieldLink own n ref ((cRow ci).2.1 k).2.1 ((cRow ci).2.1 k).2.2.1).before args s = true) (hsame : ∀ x, s.fieldFound? ((cRow ci).2.1 k).1 ((cRow ci).2.1 k).2.1 ((cRow ci).2.1 k).2.2.1 = some x → s.fieldFound? ref ((cRow ci).2.1 k).2.1 ((cRow ci).2.1 k).2.2.1 = some x)
    (ht : (ztg σ a).1 = 1 ∧ (ztg σ a).2.1 = ci) (hdg : decode cc pc = .ok (.getfield n, 3))
    (kk : W p l e R s m args below meth c H locs cells slots Q (F0 m (pc + 3) ls (zval σ ci k a :: rest))) : W p l e R s m args below meth c H locs cells slots Q (F0 m pc ls (.ref a :: rest)) := by
  obtain ⟨t1, rfl⟩ := ht
  obtain ⟨h0, ⟨cell, q1, q2, q3, q4⟩, -⟩ := hG.obj t1
  obtain ⟨hS, hfc, kC, hkC, hkind⟩ := hK.cls h0
  obtain ⟨cf, kf, fi, f, hi, hsl⟩ := hS k hk
  refine W.getf hexec hb hown hlink (hsame _ hi) (u_facts hfc hkC (u_lays hts (lay_ok _ h0) hk) hi).1 q1 (by rw [q3]; exact fun h => by cases h) (v := zval σ (ztg σ a).2.1 k a) ?_ rfl rfl hdg kk
  rw [hsl, q4 k hk]
theorem z_apart (hts : ∀ w ∈ bigW, w.before args s = true) (hK : gK G s) {ci : Nat} (hc : ci < 14) : ∀ x y, x < (cRow ci).2.2 → y < (cRow ci).2.2 → x ≠ y → (G.1.2 ci) x ≠ (G.1.2 ci) y := by
  intro x y hx hy hne
  obtain ⟨hS, -⟩ := hK.cls hc
  obtain ⟨_, _, _, fa, hia, ea⟩ := hS x hx
  obtain ⟨_, _, _, fb, hib, eb⟩ := hS y hy
  rw [← ea, ← eb]
  refine u_apart (u_lays hts (lay_ok _ hc) hx) (u_lays hts (lay_ok _ hc) hy) hia hib ?_
  rw [(State.fieldFound?_type hia (cty_ok ci hc x hx)).1, (State.fieldFound?_type hib (cty_ok ci hc y hy)).1]
  exact nm_ok ci hc x hx y hy hne
theorem s_put (hexec : p.tables.exec = Jvm.exec) (hb : c.code = cc) (hts : ∀ w ∈ bigW, w.before args s = true) {own ref : String} {n ci k : Nat} (hown : s.vm.findClass own = some m.cls) (hK : gK G s) (hG : gRep G lo s σ H) (hS0 : va_S (fun q => lo ≤ q) H0 H locs) (hk : k < (cRow ci).2.2)
    (hlink : (Cond.fieldLink own n ref ((cRow ci).2.1 k).2.1 ((cRow ci).2.1 k).2.2.1).before args s = true) (hsame : ∀ x, s.fieldFound? ((cRow ci).2.1 k).1 ((cRow ci).2.1 k).2.1 ((cRow ci).2.1 k).2.2.1 = some x → s.fieldFound? ref ((cRow ci).2.1 k).2.1 ((cRow ci).2.1 k).2.2.1 = some x)
    (hfin : ((cRow ci).2.1 k).2.2.2 = false ∨ (((cRow ci).2.1 k).2.2.2 = true ∧ ((cRow ci).2.1 k).1 = own ∧ meth.name = "<init>"))
    (ht : (ztg σ a).1 = 1 ∧ (ztg σ a).2.1 = ci) {v : Value} (hn : narrow (cTy ci k) v = v) (hfit : fits (cTy ci k) v = true)
    (e1 : ztg σ' = ztg σ) (e2 : ∀ c' k' b, zval σ' c' k' b = if c' = ci ∧ k' = k ∧ b = a then v else zval σ c' k' b) (e3 : zai σ' = zai σ) (e4 : zar σ' = zar σ) (hdg : decode cc pc = .ok (.putfield n, 3))
    (kk : ∀ (H1 : Heap) (locs1 : List Loc), H1.size = H.size → gRep G lo s σ' H1 → va_S (fun q => lo ≤ q) H0 H1 locs1 → W p l e R s m args below meth c H1 locs1 cells slots Q (F0 m (pc + 3) ls rest)) : W p l e R s m args below meth c H locs cells slots Q (F0 m pc ls (v :: .ref a :: rest)) := by
  obtain ⟨t1, rfl⟩ := ht
  obtain ⟨h0, ⟨cell, q1, q2, q3, q4⟩, hlo⟩ := hG.obj t1
  have hap := z_apart hts hK h0
  obtain ⟨hS, hfc, kC, hkC, hkind⟩ := hK.cls h0
  obtain ⟨cf, kf, fi, f, hi, hsl⟩ := hS k hk
  have hst := (u_facts hfc hkC (u_lays hts (lay_ok _ h0) hk) hi).1
  have hlay := hts _ (lay_ok _ h0 _ (u_in_lay hk))
  have fin : ∀ H' : Heap, H'[a]? = some (cell.setSlot f.slot v) → H'.size = H.size → (∀ q, q ≠ a → H'[q]? = H[q]?) → gRep G lo s σ' H' ∧ va_S (fun q => lo ≤ q) H0 H' (locs ++ [⟨a, f.slot⟩]) := by
    intro H' f1 f2 f3
    refine ⟨hG.one (a := a) ?_ (fun b hb => ⟨by rw [e1], fun c' k' => by rw [e2, if_neg (fun z => hb z.2.2)], fun t j => by rw [e3], fun t j => by rw [e4]⟩) (fun q h1 h2 => f3 q h1), hS0.put f2 f3 hlo⟩
    have hne : ∀ z : Nat, (ztg σ a).1 = z → z ≠ 1 → False := fun z h1 h2 => h2 (h1.symm.trans t1)
    unfold gAt
    rw [e1]
    refine ⟨fun _ => ⟨h0, ⟨_, f1, q2, q3, fun j hj => ?_⟩, hlo⟩, fun h => (hne _ h (by decide)).elim, fun h => (hne _ h (by decide)).elim, fun h => (hne _ h (by decide)).elim, fun h => (hne _ h (by decide)).elim⟩
    rw [hsl, t_set q4 hap hk v j hj]
    show some (updV _ _ _ _) = some (zval σ' _ _ _)
    rw [e2]
    unfold updV
    by_cases hj2 : j = k
    · simp [hj2]
    · simp [hj2]
  have hsz : f.slot < cell.slots.size := by rw [hsl]; exact k2_hasslot (q4 k hk)
  rcases hfin with hfin | ⟨hfin, hdecl, hin2⟩
  · unfold u_lay at hlay
    rw [if_neg (by rw [hfin]; decide)] at hlay
    have h6 := u_store hfc hkC hkind hlay hi (cty_ok _ h0 k hk) hn hfit
    refine W.putK hexec hb (f := f) ⟨hown, hlink, ⟨_, _, _, hsame _ hi⟩, hst⟩ (by rw [q2]; exact h6) q1 q3 hsz rfl rfl hdg fun H' f1 f2 f3 => ?_
    exact kk H' _ f2 (fin H' f1 f2 f3).1 (fin H' f1 f2 f3).2
  · unfold u_lay at hlay
    rw [if_pos hfin] at hlay
    have hcf : m.cls = cf := by
      obtain ⟨_, _, c', _, _, _, -, -, hf', -, -, -, hown2, -⟩ := Cond.laysFinal_spec hlay
      have e1 : c' = cf := by have := hi.symm.trans hf'; simp at this; exact this.1.symm
      rw [hdecl] at hown2
      rw [← e1]; exact Option.some.inj (hown.symm.trans hown2)
    have h6 := u_fits hfc hkC hkind (Or.inr hlay) hi (cty_ok _ h0 k hk) hn hfit
    refine W.putFinK hexec hb hown hlink (hsame _ hi) hst hcf hin2 (by rw [q2]; exact h6) q1 q3 hsz rfl rfl hdg fun H' f1 f2 f3 => ?_
    exact kk H' _ f2 (fin H' f1 f2 f3).1 (fin H' f1 f2 f3).2
theorem arrNe {cA : ClassId} {N : Nat} {f : Nat → Value} : (arrV cA N f).vm ≠ .unknown := fun h => by cases h
theorem s_ild (hexec : p.tables.exec = Jvm.exec) (hb : c.code = cc) (hK : gK G s) (hG : gRep G lo s σ H) {i : Int32} {z : Bool} (ht : (ztg σ a).1 = 2 ∨ (ztg σ a).1 = 4) (hty : siteTy (ztg σ a).2.1 = if z then .boolean else .int) (hin : ¬ (i < 0 ∨ (ztg σ a).2.2 ≤ i.toNatClampNeg)) (hdg : decode cc pc = .ok (if z then .baload else .iaload, 1))
    (kk : W p l e R s m args below meth c H locs cells slots Q (F0 m (pc + 1) ls (.int (zai σ (ztg σ a).2.1 a i.toNatClampNeg) :: rest))) : W p l e R s m args below meth c H locs cells slots Q (F0 m pc ls (.int i :: .ref a :: rest)) := by
  have hlt : i.toNatClampNeg < (ztg σ a).2.2 := Nat.not_le.mp fun q => hin (Or.inr q)
  rcases ht with ht | ht
  · obtain ⟨hcell, -⟩ := (hG a).2.1 ht
    have ha := (hK.2 (ztg σ a).2.1).1 (ztg σ a).2.2 (fun j => .int (zai σ (ztg σ a).2.1 a j))
    rw [hty] at ha
    cases z with
    | false => exact W.iald (v := .int (zai σ (ztg σ a).2.1 a i.toNatClampNeg)) hexec hb hcell ha arrNe (by rw [arrV_size]; exact hin) (by rw [arrV_read _ _ hlt]) rfl rfl hdg kk
    | true => exact W.zald (v := .int (zai σ (ztg σ a).2.1 a i.toNatClampNeg)) hexec hb hcell ha arrNe (by rw [arrV_size]; exact hin) (by rw [arrV_read _ _ hlt]) rfl rfl hdg kk
  · obtain ⟨h0, ⟨scr, h1, h2, h3, h4, h5⟩, h6⟩ := (hG a).2.2.2.1 ht
    rw [h0] at hty
    cases z with
    | false => exact W.iald hexec hb h1 h2 h3 (by rw [h4]; exact hin) (h5 _ hlt) rfl rfl hdg kk
    | true => cases hty
theorem s_ist (hexec : p.tables.exec = Jvm.exec) (hb : c.code = cc) (hK : gK G s) (hG : gRep G lo s σ H) (hS0 : va_S (fun q => lo ≤ q) H0 H locs) {i x : Int32} {z : Bool} (ht : (ztg σ a).1 = 2) (hty : siteTy (ztg σ a).2.1 = if z then .boolean else .int) (hin : ¬ (i < 0 ∨ (ztg σ a).2.2 ≤ i.toNatClampNeg)) (hz : z = true → x = 0 ∨ x = 1) (hdg : decode cc pc = .ok (if z then .bastore else .iastore, 1))
    (kk : ∀ (H1 : Heap) (locs1 : List Loc), H1.size = H.size → gRep G lo s (sai σ (ztg σ a).2.1 a i.toNatClampNeg x) H1 → va_S (fun q => lo ≤ q) H0 H1 locs1 → W p l e R s m args below meth c H1 locs1 cells slots Q (F0 m (pc + 1) ls rest)) : W p l e R s m args below meth c H locs cells slots Q (F0 m pc ls (.int x :: .int i :: .ref a :: rest)) := by
  obtain ⟨hcell, hlo⟩ := (hG a).2.1 ht
  have ha := (hK.2 (ztg σ a).2.1).1 (ztg σ a).2.2 (fun j => .int (zai σ (ztg σ a).2.1 a j))
  rw [hty] at ha
  have fin : ∀ H' : Heap, H'[a]? = some ((arrV (G.2 (ztg σ a).2.1) (ztg σ a).2.2 (fun j => .int (zai σ (ztg σ a).2.1 a j))).setSlot i.toNatClampNeg (.int x)) → H'.size = H.size → (∀ q, q ≠ a → H'[q]? = H[q]?) → gRep G lo s (sai σ (ztg σ a).2.1 a i.toNatClampNeg x) H' ∧ va_S (fun q => lo ≤ q) H0 H' (locs ++ [⟨a, i.toNatClampNeg⟩]) := by
    intro H' f1 f2 f3
    refine ⟨hG.one (a := a) ?_ (fun b hb => ⟨rfl, fun c' k' => rfl, fun t j => if_neg (fun z => hb z.2.1), fun t j => rfl⟩) (fun q h1 h2 => f3 q h1), hS0.put f2 f3 hlo⟩
    have hne : ∀ z : Nat, (ztg σ a).1 = z → z ≠ 2 → False := fun z h1 h2 => h2 (h1.symm.trans ht)
    refine ⟨fun h => (hne _ h (by decide)).elim, fun _ => ⟨?_, hlo⟩, fun h => (hne _ h (by decide)).elim, fun h => (hne _ h (by decide)).elim, fun h => (hne _ h (by decide)).elim⟩
    rw [f1, arrV_store]
    congr 2
    funext j
    show updV _ _ _ _ = Value.int (if _ then _ else _)
    unfold updV
    by_cases hj2 : j = i.toNatClampNeg
    · rw [if_pos hj2, if_pos ⟨rfl, rfl, hj2⟩]
    · rw [if_neg hj2, if_neg (fun z => hj2 z.2.2)]
      rfl
  cases z with
  | false => exact W.iast hexec hb hcell ha arrNe (by rw [arrV_size]; exact hin) rfl rfl hdg fun H' f1 f2 f3 => kk H' _ f2 (fin H' f1 f2 f3).1 (fin H' f1 f2 f3).2
  | true =>
    have hx : narrow .boolean (.int x) = .int x := by rcases hz rfl with rfl | rfl <;> rfl
    exact W.zast hexec hb hcell ha arrNe (by rw [arrV_size]; exact hin) rfl rfl hdg fun H' f1 f2 f3 => kk H' _ f2 (fin H' (by rw [f1, hx]) f2 f3).1 (fin H' (by rw [f1, hx]) f2 f3).2
theorem s_ald (hexec : p.tables.exec = Jvm.exec) (hb : c.code = cc) (hK : gK G s) (hG : gRep G lo s σ H) {i : Int32} (ht : (ztg σ a).1 = 3) (hty : (siteTy (ztg σ a).2.1).isReference = true) (hin : ¬ (i < 0 ∨ (ztg σ a).2.2 ≤ i.toNatClampNeg)) {q : Nat} (hq : zar σ (ztg σ a).2.1 a i.toNatClampNeg = some q) (hdg : decode cc pc = .ok (.aaload, 1))
    (kk : W p l e R s m args below meth c H locs cells slots Q (F0 m (pc + 1) ls (.ref q :: rest))) : W p l e R s m args below meth c H locs cells slots Q (F0 m pc ls (.int i :: .ref a :: rest)) := by
  have hlt : i.toNatClampNeg < (ztg σ a).2.2 := Nat.not_le.mp fun q => hin (Or.inr q)
  obtain ⟨hcell, -⟩ := (hG a).2.2.1 ht
  exact W.aald (v := .ref q) hexec hb hcell ((hK.2 (ztg σ a).2.1).1 _ _) hty arrNe (by rw [arrV_size]; exact hin) (by rw [arrV_read _ _ hlt, hq]; rfl) rfl rfl hdg kk
theorem zAsg_spec {t : Nat} {g : Nat × Nat × Nat} (h : zAsg t g = true) : g.1 = 1 ∧ ∃ C, siteTy t = .object C ∧ ((C = cNm g.2.1 ∧ g.2.1 < 14) ∨ (C = "java/lang/Object" ∧ (g.2.1 = 0 ∨ g.2.1 = 3 ∨ g.2.1 = 8))) := by
  simp only [zAsg, Bool.and_eq_true, Bool.or_eq_true, beq_iff_eq] at h
  obtain ⟨h1, h2⟩ := h
  refine ⟨h1, ?_⟩
  rcases h2 with (⟨rfl | rfl, h3⟩ | ⟨rfl, h3⟩) | ⟨rfl, h3⟩
  · exact ⟨_, rfl, Or.inl ⟨by rw [h3]; rfl, by omega⟩⟩
  · exact ⟨_, rfl, Or.inl ⟨by rw [h3]; rfl, by omega⟩⟩
  · exact ⟨_, rfl, Or.inl ⟨by rw [h3]; rfl, by omega⟩⟩
  · exact ⟨_, rfl, Or.inr ⟨rfl, by omega⟩⟩
/-- an object that an array takes: its cell, its class, and that the class goes in -/
theorem zAsg_in (hK : gK G s) (hC : zCst s) (hG : gRep G lo s σ H) {t v : Nat} (h : zAsg t (ztg σ v) = true) : ∃ (cell : Cell) (kA : Class) (comp : ClassId) (C : String) (kv kcomp : Class), H[v]? = some cell ∧ cell.vm = .none ∧ siteTy t = .object C ∧ s.vm.classes[G.2 t]? = some kA ∧ kA.kind = .array comp (.object C) ∧ s.vm.findClass C = some comp ∧ s.vm.classes[cell.cls]? = some kv ∧ s.vm.classes[comp]? = some kcomp ∧ s.vm.assignable cell.cls comp = true := by
  obtain ⟨h1, C, h2, h3⟩ := zAsg_spec h
  obtain ⟨h0, ⟨cell, q1, q2, q3, q4⟩, -⟩ := hG.obj h1
  have hcl := (hK.cls h0).2
  rw [(cls_ok _ h0).2] at hcl
  have hra := (hK.2 t).2
  rw [h2] at hra
  obtain ⟨kA, comp, k1, k2, k3, -⟩ := hra
  obtain ⟨kC, hkC, hkind⟩ := hcl.2
  rcases h3 with ⟨rfl, -⟩ | ⟨rfl, h4⟩
  · have hcomp : comp = G.1.1 (ztg σ v).2.1 := Option.some.inj (k3.symm.trans hcl.1)
    exact ⟨cell, kA, comp, _, kC, kC, q1, q3, h2, k1, k2, k3, by rw [q2]; exact hkC, by rw [hcomp]; exact hkC, by rw [q2, hcomp]; exact va_assign hcl⟩
  · obtain ⟨c0, t0, f1, f2, f3⟩ := Cond.castable_spec (va_Nw.use (A := #[]) rfl (hC _ h4))
    have e1 : c0 = G.1.1 (ztg σ v).2.1 := Option.some.inj (f1.symm.trans hcl.1)
    have e2 : t0 = comp := Option.some.inj (f2.symm.trans k3)
    obtain ⟨kE, hkE, -⟩ := Vm.findClass_spec k3
    exact ⟨cell, kA, comp, _, kC, kE, q1, q3, h2, k1, k2, k3, by rw [q2]; exact hkC, hkE, by rw [q2, ← e1, ← e2]; exact f3⟩
theorem sar_rep (hG : gRep G lo s σ H) (hS0 : va_S (fun q => lo ≤ q) H0 H locs) {i : Nat} {r : Option Nat} (ht : (ztg σ a).1 = 3) {H' : Heap} (f1 : H'[a]? = some ((arrV (G.2 (ztg σ a).2.1) (ztg σ a).2.2 (fun j => va_rf (zar σ (ztg σ a).2.1 a j))).setSlot i (va_rf r))) (f2 : H'.size = H.size) (f3 : ∀ q, q ≠ a → H'[q]? = H[q]?) : gRep G lo s (sar σ (ztg σ a).2.1 a i r) H' ∧ va_S (fun q => lo ≤ q) H0 H' (locs ++ [⟨a, i⟩]) := by
  obtain ⟨hcell, hlo⟩ := (hG a).2.2.1 ht
  refine ⟨hG.one (a := a) ?_ (fun b hb => ⟨rfl, fun c' k' => rfl, fun t j => rfl, fun t j => if_neg (fun z => hb z.2.1)⟩) (fun q h1 h2 => f3 q h1), hS0.put f2 f3 hlo⟩
  have hne : ∀ z : Nat, (ztg σ a).1 = z → z ≠ 3 → False := fun z h1 h2 => h2 (h1.symm.trans ht)
  refine ⟨fun h => (hne _ h (by decide)).elim, fun h => (hne _ h (by decide)).elim, fun _ => ⟨?_, hlo⟩, fun h => (hne _ h (by decide)).elim, fun h => (hne _ h (by decide)).elim⟩
  rw [f1, arrV_store]
  congr 2
  funext j
  show updV _ _ _ _ = va_rf (if _ then _ else _)
  unfold updV
  by_cases hj2 : j = i
  · rw [if_pos hj2, if_pos ⟨rfl, rfl, hj2⟩]
  · rw [if_neg hj2, if_neg (fun z => hj2 z.2.2)]
    rfl
theorem s_ast (hexec : p.tables.exec = Jvm.exec) (hb : c.code = cc) (hK : gK G s) (hC : zCst s) (hG : gRep G lo s σ H) (hS0 : va_S (fun q => lo ≤ q) H0 H locs) {i : Int32} {v : Nat} (ht : (ztg σ a).1 = 3) (hv : zAsg (ztg σ a).2.1 (ztg σ v) = true) (hin : ¬ (i < 0 ∨ (ztg σ a).2.2 ≤ i.toNatClampNeg)) (hdg : decode cc pc = .ok (.aastore, 1))
    (kk : ∀ (H1 : Heap) (locs1 : List Loc), H1.size = H.size → gRep G lo s (sar σ (ztg σ a).2.1 a i.toNatClampNeg (some v)) H1 → va_S (fun q => lo ≤ q) H0 H1 locs1 → W p l e R s m args below meth c H1 locs1 cells slots Q (F0 m (pc + 1) ls rest)) : W p l e R s m args below meth c H locs cells slots Q (F0 m pc ls (.ref v :: .int i :: .ref a :: rest)) := by
  obtain ⟨hcell, hlo⟩ := (hG a).2.2.1 ht
  obtain ⟨cv, kA, comp, C, kv, kcomp, g1, g2, g3, g4, g5, g6, g7, g8, g9⟩ := zAsg_in hK hC hG hv
  have hlt : i.toNatClampNeg < (ztg σ a).2.2 := Nat.not_le.mp fun q => hin (Or.inr q)
  refine W.aast hexec hb hcell (fun q h => by cases h) (fun h => by cases h) g4 g5 rfl g8 ⟨fun q => hin (Or.inl q), by show _ < (arrV _ _ _).slots.size; rw [arrV_size]; exact hlt⟩ g1 (fun q h => by rw [g2] at h; cases h) g7 g9 rfl rfl hdg fun H' f1 f2 f3 => ?_
  have := sar_rep (H0 := H0) hG hS0 (r := some v) ht f1 f2 f3
  exact kk H' _ f2 this.1 this.2
theorem s_astN (hexec : p.tables.exec = Jvm.exec) (hb : c.code = cc) (hK : gK G s) (hG : gRep G lo s σ H) (hS0 : va_S (fun q => lo ≤ q) H0 H locs) {i : Int32} (ht : (ztg σ a).1 = 3) (hty : (siteTy (ztg σ a).2.1).isReference = true) (hin : ¬ (i < 0 ∨ (ztg σ a).2.2 ≤ i.toNatClampNeg)) (hdg : decode cc pc = .ok (.aastore, 1))
    (kk : ∀ (H1 : Heap) (locs1 : List Loc), H1.size = H.size → gRep G lo s (sar σ (ztg σ a).2.1 a i.toNatClampNeg none) H1 → va_S (fun q => lo ≤ q) H0 H1 locs1 → W p l e R s m args below meth c H1 locs1 cells slots Q (F0 m (pc + 1) ls rest)) : W p l e R s m args below meth c H locs cells slots Q (F0 m pc ls (.null :: .int i :: .ref a :: rest)) := by
  obtain ⟨hcell, hlo⟩ := (hG a).2.2.1 ht
  have hlt : i.toNatClampNeg < (ztg σ a).2.2 := Nat.not_le.mp fun q => hin (Or.inr q)
  obtain ⟨-, k, hk, comp, hkk⟩ := (hK.2 (ztg σ a).2.1).1 (ztg σ a).2.2 (fun j => va_rf (zar σ (ztg σ a).2.1 a j))
  intro T hT X
  have hT' : T.heap[a]? = some (arrV (G.2 (ztg σ a).2.1) (ztg σ a).2.2 (fun j => va_rf (zar σ (ztg σ a).2.1 a j))) := by rw [hT]; exact hcell
  obtain ⟨X', st⟩ := X.aastoreNullInK hexec hT' (fun q h => by cases h) (fun h => by cases h) hk hkk hty ⟨fun q => hin (Or.inl q), by rw [arrV_size]; exact hlt⟩ (g := F0 m pc ls (.null :: .int i :: .ref a :: rest)) rfl rfl (by rw [hb]; exact hdg)
  have hl : a < T.heap.size := (Array.getElem?_eq_some_iff.mp hT').1
  have := sar_rep (H0 := H0) hG hS0 (i := i.toNatClampNeg) (r := none) ht (heapAt_setCell_self _ hl) (by rw [size_setCell, hT]) (fun q hq => by rw [heapAt_setCell_ne _ (Ne.symm hq), hT])
  obtain ⟨t', a1, b1⟩ := kk _ _ (by rw [size_setCell, hT]) this.1 this.2 _ rfl X'
  exact ⟨t', st t' a1, b1⟩
theorem s_len (hexec : p.tables.exec = Jvm.exec) (hb : c.code = cc) (hK : gK G s) (hG : gRep G lo s σ H) (ht : (ztg σ a).1 = 2 ∨ (ztg σ a).1 = 3 ∨ (ztg σ a).1 = 4) (hdg : decode cc pc = .ok (.arraylength, 1))
    (kk : W p l e R s m args below meth c H locs cells slots Q (F0 m (pc + 1) ls (.int (Int32.ofNat (ztg σ a).2.2) :: rest))) : W p l e R s m args below meth c H locs cells slots Q (F0 m pc ls (.ref a :: rest)) := by
  rcases ht with ht | ht | ht
  · obtain ⟨hcell, -⟩ := (hG a).2.1 ht
    exact W.alen (n := Int32.ofNat (ztg σ a).2.2) hexec hb hcell ((hK.2 (ztg σ a).2.1).1 _ _) (by rw [arrV_size]) rfl rfl hdg kk
  · obtain ⟨hcell, -⟩ := (hG a).2.2.1 ht
    exact W.alen (n := Int32.ofNat (ztg σ a).2.2) hexec hb hcell ((hK.2 (ztg σ a).2.1).1 _ _) (by rw [arrV_size]) rfl rfl hdg kk
  · obtain ⟨h0, ⟨scr, h1, h2, h3, h4, h5⟩, h6⟩ := (hG a).2.2.2.1 ht
    exact W.alen (n := Int32.ofNat (ztg σ a).2.2) hexec hb h1 h2 (by rw [h4]) rfl rfl hdg kk
theorem s_len0 (hexec : p.tables.exec = Jvm.exec) (hb : c.code = cc) (hG : gRep G lo s σ H) (ht : (ztg σ a).1 = 5) (hdg : decode cc pc = .ok (.arraylength, 1))
    (kk : W p l e R s m args below meth c H locs cells slots Q (F0 m (pc + 1) ls (.int 0 :: rest))) : W p l e R s m args below meth c H locs cells slots Q (F0 m pc ls (.ref a :: rest)) := by
  obtain ⟨cell, h1, h2, h3, h4, h5, h6, h7⟩ := (hG a).2.2.2.2 ht
  exact W.alen (n := 0) hexec hb h1 h2 h5 rfl rfl hdg kk
end ZS
end
section
/-! ONE INSTRUCTION: what makes objects and arrays; casts, copies, the JDK's natives -/
theorem vr_outer0 (c : ClassId) (N h0 : Nat) : ∀ i : Nat, Jvm.Free.Multi.outerC c N h0 i = arrV c N (fun j => va_rf (if j < i then some (h0 + 1 + j) else none))
  | 0 => by
    show ({ cls := c, slots := Array.replicate N .null, vm := .none } : Cell) = _
    rw [arrV_new]
    refine congrArg (arrV c N) (funext fun j => ?_)
    simp [va_rf]
  | i + 1 => by
    show (Jvm.Free.Multi.outerC c N h0 i).setSlot i (.ref (h0 + 1 + i)) = _
    rw [vr_outer0 c N h0 i, arrV_store]
    refine congrArg (arrV c N) (funext fun j => ?_)
    by_cases e : j = i
    · subst e
      simp [updV, va_rf]
    · by_cases h : j < i
      · simp [updV, e, h, Nat.lt_succ_of_lt h]
      · simp [updV, e, h, show ¬ j < i + 1 by omega]
section ZM
variable {p : Program} {l : Launch} {e : Env} {R : Room} {s : State} {m : MethodId} {args : Array Value} {below : List Frame} {meth : Method} {c : Code} {H : Heap} {locs : List Loc} {cells slots : Nat} {Q : State → Prop}
variable {cc : ByteArray} {pc : Nat} {ls : Array Slot} {rest : List Value} {G : zG} {lo : Nat} {σ σ' : zSt} {a : Nat} {H0 : Heap}
theorem va_S.more {A : Nat → Prop} {H1 : Heap} (h : va_S A H0 H locs) (z : H.size ≤ H1.size) (oq : ∀ q : Nat, q < H.size → H1[q]? = H[q]?) : va_S A H0 H1 locs :=
  ⟨Nat.le_trans h.1 z, fun q h1 h2 => by rw [oq q (Nat.lt_of_lt_of_le h1 h.1)]; exact h.2.1 q h1 h2, h.2.2⟩
theorem siteTy_pr (t : Nat) : siteTy t = .int ∨ siteTy t = .boolean ∨ siteTy t = .array .int ∨ ∃ C, siteTy t = .object C := by
  unfold siteTy
  by_cases h1 : t = 6 ∨ t = 7
  · rw [if_pos h1]; exact Or.inr (Or.inr (Or.inr ⟨_, rfl⟩))
  rw [if_neg h1]
  by_cases h2 : t = 8
  · rw [if_pos h2]; exact Or.inr (Or.inr (Or.inr ⟨_, rfl⟩))
  rw [if_neg h2]
  by_cases h3 : t = 9
  · rw [if_pos h3]; exact Or.inr (Or.inr (Or.inl rfl))
  rw [if_neg h3]
  by_cases h4 : t = 11
  · rw [if_pos h4]; exact Or.inr (Or.inr (Or.inr ⟨_, rfl⟩))
  rw [if_neg h4]
  split
  · exact Or.inr (Or.inl rfl)
  · exact Or.inl rfl
theorem s_new (hexec : p.tables.exec = Jvm.exec) (hb : c.code = cc) (hts : ∀ w ∈ bigW, w.before args s = true) {own : String} {n ci : Nat} (hown : s.vm.findClass own = some m.cls) (hK : gK G s) (hG : gRep G lo s σ H) (hS0 : va_S (fun q => lo ≤ q) H0 H locs) (hlo : lo ≤ H0.size) (hsz : H.size = znx σ) (hc : ci < 14)
    (hcl : (Cond.classLink own n (cNm ci)).before args s = true) (hcells : cells + 1 ≤ R.cells) (hslots : slots + (cRow ci).2.2 ≤ R.slots) (hdg : decode cc pc = .ok (.new n, 3))
    (kk : ∀ (H1 : Heap), H1.size = znx σ + 1 → gRep G lo s (zNew σ ci) H1 → va_S (fun q => lo ≤ q) H0 H1 locs → W p l e R s m args below meth c H1 locs (cells + 1) (slots + (cRow ci).2.2) Q (F0 m (pc + 3) ls (.ref (znx σ) :: rest))) : W p l e R s m args below meth c H locs cells slots Q (F0 m pc ls rest) := by
  have hKc := hK.cls hc
  have hfc := hKc.2.1
  rw [(cls_ok ci hc).2] at hfc
  refine W.newcK (n := (cRow ci).2.2) hexec hb hown hcl (hts _ (ins_ok ci hc)) (hts _ (ini_ok ci (by omega))) rfl hdg hcells hslots hfc hsz fun H' kC h1 h2 h3 h4 => ?_
  have hl : lo ≤ znx σ := by have := hS0.1; omega
  refine kk H' h3 (hG.one (a := znx σ) ?_ (fun b hb => ⟨if_neg hb, fun c' k' => ?_, fun t j => rfl, fun t j => rfl⟩) (fun q g1 g2 => h4 q (by omega))) (hS0.more (by omega) (fun q g1 => h4 q (by omega)))
  · have htg : ztg (zNew σ ci) (znx σ) = (1, ci, 0) := if_pos rfl
    have hne : ∀ z : Nat, (1 : Nat) = z → z ≠ 1 → False := fun z g1 g2 => g2 g1.symm
    unfold gAt
    rw [htg]
    refine ⟨fun _ => ⟨hc, ?_, hl⟩, fun h => (hne _ h (by decide)).elim, fun h => (hne _ h (by decide)).elim, fun h => (hne _ h (by decide)).elim, fun h => (hne _ h (by decide)).elim⟩
    refine t_OB.to (u_born (cTy ci) hts (lay_ok ci hc) hKc h1 h2 (cty_ok ci hc)) (fun k hk => ?_)
    show defaultValue (cTy ci k) = zval (zNew σ ci) ci k (znx σ)
    have e1 : zfi (zNew σ ci) ci k (znx σ) = 0 := if_pos ⟨rfl, rfl⟩
    have e2 : zfl (zNew σ ci) ci k (znx σ) = 0 := if_pos ⟨rfl, rfl⟩
    have e3 : zfr (zNew σ ci) ci k (znx σ) = none := if_pos ⟨rfl, rfl⟩
    unfold zval
    rw [e1, e2, e3]
    rcases fty_ok ci hc k hk with ⟨f1, f2⟩ | ⟨f1, f2⟩ | ⟨f1, f2⟩ | ⟨f1, f2⟩
    · rw [f1, f2]; rfl
    · rw [f1, f2]; rfl
    · rw [f1, f2]; rfl
    · rw [f1]
      show defaultValue (cTy ci k) = va_rf none
      cases hh : cTy ci k <;> rw [hh] at f2 <;> first | rfl | cases f2
  · have e1 : zfi (zNew σ ci) c' k' b = zfi σ c' k' b := if_neg (fun z => hb z.2)
    have e2 : zfl (zNew σ ci) c' k' b = zfl σ c' k' b := if_neg (fun z => hb z.2)
    have e3 : zfr (zNew σ ci) c' k' b = zfr σ c' k' b := if_neg (fun z => hb z.2)
    unfold zval
    rw [e1, e2, e3]
theorem zNewI_rep (hG : gRep G lo s σ H) (hl : lo ≤ znx σ) (hsz : H.size = znx σ) {t n : Nat} {H' : Heap} (h2 : H'[znx σ]? = some (arrV (G.2 t) n (fun _ => .int 0))) (h4 : ∀ q, q < znx σ → H'[q]? = H[q]?) : gRep G lo s (zNewI σ t n) H' := by
  refine hG.one (a := znx σ) ?_ (fun b hb => ⟨if_neg hb, fun c' k' => rfl, fun t' j => if_neg (fun z => hb z.2), fun t j => rfl⟩) (fun q g1 g2 => h4 q (by omega))
  have htg : ztg (zNewI σ t n) (znx σ) = (2, t, n) := if_pos rfl
  have hne : ∀ z : Nat, (2 : Nat) = z → z ≠ 2 → False := fun z g1 g2 => g2 g1.symm
  unfold gAt
  rw [htg]
  refine ⟨fun h => (hne _ h (by decide)).elim, fun _ => ⟨?_, hl⟩, fun h => (hne _ h (by decide)).elim, fun h => (hne _ h (by decide)).elim, fun h => (hne _ h (by decide)).elim⟩
  rw [h2]
  congr 2
  funext j
  exact congrArg Value.int (if_pos ⟨rfl, rfl⟩ : zai (zNewI σ t n) t (znx σ) j = 0).symm
theorem zNewR_rep (hG : gRep G lo s σ H) (hl : lo ≤ znx σ) (hsz : H.size = znx σ) {t n : Nat} {H' : Heap} (h2 : H'[znx σ]? = some (arrV (G.2 t) n (fun _ => .null))) (h4 : ∀ q, q < znx σ → H'[q]? = H[q]?) : gRep G lo s (zNewR σ t n) H' := by
  refine hG.one (a := znx σ) ?_ (fun b hb => ⟨if_neg hb, fun c' k' => rfl, fun t' j => rfl, fun t' j => if_neg (fun z => hb z.2)⟩) (fun q g1 g2 => h4 q (by omega))
  have htg : ztg (zNewR σ t n) (znx σ) = (3, t, n) := if_pos rfl
  have hne : ∀ z : Nat, (3 : Nat) = z → z ≠ 3 → False := fun z g1 g2 => g2 g1.symm
  unfold gAt
  rw [htg]
  refine ⟨fun h => (hne _ h (by decide)).elim, fun h => (hne _ h (by decide)).elim, fun _ => ⟨?_, hl⟩, fun h => (hne _ h (by decide)).elim, fun h => (hne _ h (by decide)).elim⟩
  rw [h2]
  congr 2
  funext j
  have e1 : zar (zNewR σ t n) t (znx σ) j = none := if_pos ⟨rfl, rfl⟩
  show Value.null = va_rf _
  rw [e1]
  rfl
theorem s_newI (hexec : p.tables.exec = Jvm.exec) (hb : c.code = cc) (hts : ∀ w ∈ bigW, w.before args s = true) {aty : ArrayType} {t : Nat} (hty : newarray.typeOf aty = siteTy t) (hK : gK G s) (hG : gRep G lo s σ H) (hS0 : va_S (fun q => lo ≤ q) H0 H locs) (hlo : lo ≤ H0.size) (hsz : H.size = znx σ) {n : Int32} (hn : ¬ n < 0) (hbytes : n.toNatClampNeg * componentBytes (siteTy t) ≤ 536870912)
    (hcells : cells + 1 ≤ R.cells) (hslots : slots + n.toNatClampNeg ≤ R.slots) (hdg : decode cc pc = .ok (.newarray aty, 2))
    (kk : ∀ (H1 : Heap), H1.size = znx σ + 1 → gRep G lo s (zNewI σ t n.toNatClampNeg) H1 → va_S (fun q => lo ≤ q) H0 H1 locs → W p l e R s m args below meth c H1 locs (cells + 1) (slots + n.toNatClampNeg) Q (F0 m (pc + 2) ls (.ref (znx σ) :: rest))) : W p l e R s m args below meth c H locs cells slots Q (F0 m pc ls (.int n :: rest)) := by
  have hl : lo ≤ znx σ := by have := hS0.1; omega
  have hdv : defaultValue (siteTy t) = .int 0 ∧ (Cond.arrayClass (newarray.typeOf aty)).before args s = true := by
    rcases siteTy_pr t with h | h | h | ⟨C, h⟩
    · rw [hty, h]; exact ⟨rfl, hts _ w_aI⟩
    · rw [hty, h]; exact ⟨rfl, hts _ w_aZ⟩
    · rw [h] at hty; cases aty <;> cases hty
    · rw [h] at hty; cases aty <;> cases hty
  have hra := (hK.2 t).2
  rw [← hty] at hra
  have hcA : s.vm.findClass ("[" ++ (newarray.typeOf aty).toString) = some (G.2 t) := by cases aty <;> exact hra
  refine va_newaK hexec hb hdv.2 (g := F0 m pc ls (.int n :: rest)) rfl hdg (N := n.toNatClampNeg) rfl hn rfl (by rw [hty]; exact hbytes) hcells hslots hsz fun H' cA h2 h3 h4 h5 h6 => ?_
  have e1 : cA = G.2 t := Option.some.inj (h6.symm.trans hcA)
  rw [e1, hty, hdv.1] at h2
  exact kk H' h3 (zNewI_rep hG hl hsz h2 h4) (hS0.more (by omega) (fun q g1 => h4 q (by omega)))
theorem s_newR (hexec : p.tables.exec = Jvm.exec) (hb : c.code = cc) {own C : String} {k t : Nat} (hown : s.vm.findClass own = some m.cls) (hcl : (Cond.classLink own k C).before args s = true) (hover : va_AO C s) (hty : siteTy t = .object C) (hK : gK G s) (hG : gRep G lo s σ H) (hS0 : va_S (fun q => lo ≤ q) H0 H locs) (hlo : lo ≤ H0.size) (hsz : H.size = znx σ) {n : Int32} (hn : ¬ n < 0) (hbytes : n.toNatClampNeg * 4 ≤ 536870912)
    (hcells : cells + 1 ≤ R.cells) (hslots : slots + n.toNatClampNeg ≤ R.slots) (hdg : decode cc pc = .ok (.anewarray k, 3))
    (kk : ∀ (H1 : Heap), H1.size = znx σ + 1 → gRep G lo s (zNewR σ t n.toNatClampNeg) H1 → va_S (fun q => lo ≤ q) H0 H1 locs → W p l e R s m args below meth c H1 locs (cells + 1) (slots + n.toNatClampNeg) Q (F0 m (pc + 3) ls (.ref (znx σ) :: rest))) : W p l e R s m args below meth c H locs cells slots Q (F0 m pc ls (.int n :: rest)) := by
  have hl : lo ≤ znx σ := by have := hS0.1; omega
  have hra := (hK.2 t).2
  rw [hty] at hra
  obtain ⟨kA, comp, k1, k2, k3, k4⟩ := hra
  refine W.anew hexec hb hown hcl (va_AO.use hover) (g := F0 m pc ls (.int n :: rest)) rfl hdg rfl hn hbytes hcells hslots fun cA kA' comp' h1 h2 h3 h5 => ?_
  have e1 : cA = G.2 t := Option.some.inj (h1.symm.trans k4)
  rw [e1, arrV_new, hsz]
  refine kk _ (by simp [hsz]) (zNewR_rep hG hl hsz (by rw [← hsz]; simp) (fun q hq => by rw [Array.getElem?_push, if_neg (by omega)])) (hS0.more (by simp) (fun q g1 => by rw [Array.getElem?_push, if_neg (by omega)]))
theorem s_newM (hexec : p.tables.exec = Jvm.exec) (hb : c.code = cc) (hts : ∀ w ∈ bigW, w.before args s = true) {own : String} (hown : s.vm.findClass own = some m.cls) {idx : Nat} (hcl : (Cond.classLink own idx "[[I").before args s = true) (hover : zAOA s) (hK : gK G s) (hG : gRep G lo s σ H) (hS0 : va_S (fun q => lo ≤ q) H0 H locs) (hlo : lo ≤ H0.size) (hsz : H.size = znx σ) {n k : Int32} (hn : ¬ n < 0) (hk : ¬ k < 0)
    (hb1 : n.toNatClampNeg * 4 ≤ 536870912) (hb2 : k.toNatClampNeg * 4 ≤ 536870912) (hb3 : k.toNatClampNeg ≤ 536870912) (hcells : cells + (1 + n.toNatClampNeg) ≤ R.cells) (hslots : slots + (n.toNatClampNeg + n.toNatClampNeg * k.toNatClampNeg) ≤ R.slots) (hdg : decode cc pc = .ok (.multianewarray idx 2, 4))
    (kk : ∀ (H1 : Heap), H1.size = znx σ + 1 + n.toNatClampNeg → gRep G lo s (zNewM σ n.toNatClampNeg k.toNatClampNeg) H1 → va_S (fun q => lo ≤ q) H0 H1 locs → W p l e R s m args below meth c H1 locs (cells + 1 + n.toNatClampNeg) (slots + n.toNatClampNeg + n.toNatClampNeg * k.toNatClampNeg) Q (F0 m (pc + 4) ls (.ref (znx σ) :: rest))) : W p l e R s m args below meth c H locs cells slots Q (F0 m pc ls (.int k :: .int n :: rest)) := by
  have hl : lo ≤ znx σ := by have := hS0.1; omega
  intro T hT Xs
  obtain ⟨vm₁, cA, comp, -, fA, fC, hO, -, X', step⟩ := Xs.multianewarray2F (ty := .int) hexec hown hcl hover (hts _ w_aI) (g := F0 m pc ls (.int k :: .int n :: rest)) rfl (by rw [hb]; exact hdg) rfl hn hk hb1 hb2 hb3 rfl rfl hcells hslots
  generalize hF : Jvm.Free.Multi.fill (T.setVm vm₁) cA comp n.toNatClampNeg k.toNatClampNeg (defaultValue .int) n.toNatClampNeg = F at X' step
  have hTh : (T.setVm vm₁).heap = H := hT
  obtain ⟨f1, f2, -, -⟩ := Jvm.Free.Multi.fill_facts (T.setVm vm₁) cA comp n.toNatClampNeg k.toNatClampNeg (defaultValue .int) n.toNatClampNeg
  rw [hF, hTh, hsz] at f1 f2
  have hold : ∀ x : Nat, x < znx σ → F.heap[x]? = H[x]? := fun x hx => by
    have := Jvm.Free.Multi.fill_old (T.setVm vm₁) cA comp n.toNatClampNeg k.toNatClampNeg (defaultValue .int) (a := x) (by rw [hTh, hsz]; exact hx) n.toNatClampNeg
    rw [hF, hTh] at this
    exact this
  have hrow : ∀ j : Nat, j < n.toNatClampNeg → F.heap[znx σ + 1 + j]? = some (arrV comp k.toNatClampNeg (fun _ => .int 0)) := fun j hj => by
    have := Jvm.Free.Multi.fill_inner (T.setVm vm₁) cA comp n.toNatClampNeg k.toNatClampNeg (defaultValue .int) n.toNatClampNeg j hj
    rw [hF, hTh, hsz] at this
    rw [this, ← arrV_new]
    rfl
  have hra := (hK.2 9).2
  have hri := (hK.2 10).2
  have e1 : cA = G.2 9 := Option.some.inj (fA.symm.trans hra)
  have e2 : comp = G.2 10 := Option.some.inj (fC.symm.trans hri)
  have hT1 : T.heap.size = znx σ := by rw [hT, hsz]
  have hGF : gRep G lo s (zNewM σ n.toNatClampNeg k.toNatClampNeg) F.heap := by
    intro b
    by_cases g1 : b = znx σ
    · subst g1
      have htg : ztg (zNewM σ n.toNatClampNeg k.toNatClampNeg) (znx σ) = (3, 9, n.toNatClampNeg) := if_pos rfl
      have hne : ∀ z : Nat, (3 : Nat) = z → z ≠ 3 → False := fun z g1 g2 => g2 g1.symm
      unfold gAt
      rw [htg]
      refine ⟨fun h => (hne _ h (by decide)).elim, fun h => (hne _ h (by decide)).elim, fun _ => ⟨?_, hl⟩, fun h => (hne _ h (by decide)).elim, fun h => (hne _ h (by decide)).elim⟩
      rw [f2, e1]
      have hout := vr_outer0 (G.2 9) n.toNatClampNeg (znx σ) n.toNatClampNeg
      rw [hout]
      congr 2
      funext j
      have e3 : zar (zNewM σ n.toNatClampNeg k.toNatClampNeg) 9 (znx σ) j = if j < n.toNatClampNeg then some (znx σ + 1 + j) else none := if_pos ⟨rfl, rfl⟩
      show _ = va_rf _
      rw [e3]
    · by_cases g2 : znx σ < b ∧ b ≤ znx σ + n.toNatClampNeg
      · have htg : ztg (zNewM σ n.toNatClampNeg k.toNatClampNeg) b = (2, 10, k.toNatClampNeg) := (if_neg g1).trans (if_pos g2)
        have hne : ∀ z : Nat, (2 : Nat) = z → z ≠ 2 → False := fun z g1 g2 => g2 g1.symm
        unfold gAt
        rw [htg]
        refine ⟨fun h => (hne _ h (by decide)).elim, fun _ => ⟨?_, by omega⟩, fun h => (hne _ h (by decide)).elim, fun h => (hne _ h (by decide)).elim, fun h => (hne _ h (by decide)).elim⟩
        have := hrow (b - (znx σ + 1)) (by omega)
        rw [show znx σ + 1 + (b - (znx σ + 1)) = b by omega] at this
        rw [this, e2]
        congr 2
        funext j
        exact congrArg Value.int (if_pos ⟨rfl, g2.1, g2.2⟩ : zai (zNewM σ n.toNatClampNeg k.toNatClampNeg) 10 b j = 0).symm
      · refine (hG b).kept ⟨(if_neg g1).trans (if_neg g2), fun c' k' => rfl, fun t j => if_neg (fun z => g2 z.2), fun t j => if_neg (fun z => g1 z.2)⟩ (fun h => hold b (by omega))
  obtain ⟨t, a1, b1⟩ := kk F.heap (by rw [f1]) hGF (hS0.more (by rw [f1]; omega) (fun q g1 => hold q (by omega))) F rfl X'
  refine ⟨t, step t ?_, b1⟩
  rw [hT1]
  exact a1
theorem s_chk (hexec : p.tables.exec = Jvm.exec) (hb : c.code = cc) {own : String} {n ci : Nat} (hown : s.vm.findClass own = some m.cls) (hcl : (Cond.classLink own n (cNm ci)).before args s = true) (hK : gK G s) (hG : gRep G lo s σ H) (ht : (ztg σ a).1 = 1 ∧ (ztg σ a).2.1 = ci) (hdg : decode cc pc = .ok (.checkcast n, 3))
    (k : W p l e R s m args below meth c H locs cells slots Q (F0 m (pc + 3) ls (.ref a :: rest))) : W p l e R s m args below meth c H locs cells slots Q (F0 m pc ls (.ref a :: rest)) := by
  obtain ⟨t1, rfl⟩ := ht
  obtain ⟨h0, ⟨cell, q1, q2, q3, q4⟩, -⟩ := hG.obj t1
  have hC := (hK.cls h0).2
  rw [(cls_ok _ h0).2] at hC
  exact va_castS hexec hb hown hcl hC ⟨cell, q1, by rw [q3]; rfl, by rw [q2]; exact hC.1⟩ hdg k
theorem s_gcl (hexec : p.tables.exec = Jvm.exec) (hb : c.code = cc) (hml : c.maxLocals = ls.size) (hts : ∀ w ∈ bigW, w.before args s = true) {own : String} {n mi : Nat} (hown : s.vm.findClass own = some m.cls) (hlink : (Cond.methodLink own n gcY).before args s = true) (hK : gK G s) (hG : gRep G lo s σ H) (hM : va_Mi "[Ljava/lang/Object;" mi s) (hD : va_Dc s) (ht : (ztg σ a).1 = 3 ∧ (ztg σ a).2.1 = 11) (hframes : 1 ≤ R.frames) (hlocals : 40 ≤ R.locals) (hw : zW rest ≤ 8) (hdg : decode cc pc = .ok (.invokevirtual n, 3))
    (k : W p l e R s m args below meth c H locs cells slots Q (F0 m (pc + 3) ls (.ref mi :: rest))) : W p l e R s m args below meth c H locs cells slots Q (F0 m pc ls (.ref a :: rest)) := by
  obtain ⟨hcell, -⟩ := (hG a).2.2.1 ht.1
  rw [ht.2] at hcell
  refine va_getC (C := "[Ljava/lang/Object;") hexec hb hml hown hlink (va_Dc.use hD) (hts _ w_gcS) (hts _ w_gcI) (hts _ w_gcN) hM ⟨_, hcell, rfl, va_nmO (hK.2 11).2 (by decide)⟩ hframes (by unfold zW at hw; omega) hdg k
theorem s_cpy (hexec : p.tables.exec = Jvm.exec) (hb : c.code = cc) (hml : c.maxLocals = ls.size) (hts : ∀ w ∈ bigW, w.before args s = true) {own : String} {index : Nat} (hown : s.vm.findClass own = some m.cls) (hlink : (Cond.methodLink own index arraycopyName).before args s = true) (hK : gK G s) (hC : zCst s) (hG : gRep G lo s σ H) (hS0 : va_S (fun q => lo ≤ q) H0 H locs) {b : Nat} {sp dp n : Int32}
    (ht : (ztg σ a).1 = 3 ∧ (ztg σ a).2.1 = 11 ∧ (ztg σ b).1 = 3 ∧ (ztg σ b).2.1 = 11) (h1 : ¬ sp < 0) (h2 : ¬ dp < 0) (h3 : ¬ n < 0) (h4 : sp.toNatClampNeg + n.toNatClampNeg ≤ (ztg σ b).2.2) (h5 : dp.toNatClampNeg + n.toNatClampNeg ≤ (ztg σ a).2.2) (hel : ∀ i, i < n.toNatClampNeg → zEl σ (zar σ 11 b (sp.toNatClampNeg + i)) = true)
    (hframes : 1 ≤ R.frames) (hlocals : 40 ≤ R.locals) (hw : zW rest ≤ 8) (hdg : decode cc pc = .ok (.invokestatic index, 3))
    (kk : ∀ (H1 : Heap) (locs1 : List Loc), H1.size = H.size → gRep G lo s (sarW σ 11 a (va_cpy (zar σ 11 b) (zar σ 11 a) sp.toNatClampNeg dp.toNatClampNeg n.toNatClampNeg)) H1 → va_S (fun q => lo ≤ q) H0 H1 locs1 → W p l e R s m args below meth c H1 locs1 cells slots Q (F0 m (pc + 3) ls rest)) : W p l e R s m args below meth c H locs cells slots Q (F0 m pc ls (.int n :: .int dp :: .ref a :: .int sp :: .ref b :: rest)) := by
  have nn : ∀ z : Int32, ¬ z < 0 → z.toInt = (z.toNatClampNeg : Int) := by
    intro z hz
    have hz0 : (0 : Int) ≤ z.toInt := by
      have := Int32.not_lt.mp hz
      simpa using Int32.le_iff_toInt_le.mp this
    show z.toInt = ((z.toInt.toNat : Nat) : Int)
    omega
  obtain ⟨ta1, ta2, tb1, tb2⟩ := ht
  obtain ⟨hc1, hlo⟩ := (hG a).2.2.1 ta1
  obtain ⟨hc0, -⟩ := (hG b).2.2.1 tb1
  rw [ta2] at hc1
  rw [tb2] at hc0
  intro T hT X
  obtain ⟨-, k0, hk0, cm0, hkk0⟩ := (hK.2 11).1 (ztg σ b).2.2 (fun j => va_rf (zar σ 11 b j))
  obtain ⟨-, k1, hk1, cm1, hkk1⟩ := (hK.2 11).1 (ztg σ a).2.2 (fun j => va_rf (zar σ 11 a j))
  obtain ⟨vm', X', step⟩ := X.arraycopy hexec hown hlink (hts _ w_acN) (hts _ w_acS) (hts _ w_acI) (src := b) (dst := a) (cs := arrV (G.2 11) (ztg σ b).2.2 (fun j => va_rf (zar σ 11 b j))) (cd := arrV (G.2 11) (ztg σ a).2.2 (fun j => va_rf (zar σ 11 a j))) (srcPos := sp) (destPos := dp) (n := n) (by rw [hT]; exact hc0) (by rw [hT]; exact hc1)
    (fun _ h => by cases h) (fun _ h => by cases h) (fun h => by cases h) (fun h => by cases h) hk0 hk1 hkk0 hkk1 rfl h1 h2 h3
    (by rw [nn sp h1, nn n h3, arrV_size]; omega)
    (by rw [nn dp h2, nn n h3, arrV_size]; omega)
    (fun vm₁ hal i hi => by
      have e : (arrV (G.2 11) (ztg σ b).2.2 (fun j => va_rf (zar σ 11 b j))).slots.getD (sp.toNatClampNeg + i) .null = va_rf (zar σ 11 b (sp.toNatClampNeg + i)) := by
        rw [Array.getD_eq_getD_getElem?, arrV_read _ _ (by omega)]
        rfl
      rw [e]
      have hy := hel i hi
      cases hz : zar σ 11 b (sp.toNatClampNeg + i) with
      | none => exact ⟨rfl, trivial⟩
      | some y =>
        rw [hz] at hy
        obtain ⟨cellV, kA, comp, C, kv, kcomp, g1, g2, g3, g4, g5, g6, g7, g8, g9⟩ := zAsg_in hK hC hG (show zAsg 11 (ztg σ y) = true from hy)
        have e5 : kA = k1 := Option.some.inj (g4.symm.trans hk1)
        have e6 : comp = cm1 := by
          rw [e5] at g5
          have := g5.symm.trans hkk1
          cases this
          rfl
        obtain ⟨kv', hkv', -⟩ := hal.2.2 _ _ g7
        obtain ⟨kE', hkE', -⟩ := hal.2.2 _ _ g8
        refine ⟨rfl, cellV, (show T.heap[y]? = some cellV by rw [hT]; exact g1), (fun q h => by rw [h] at g2; cases g2), ⟨kv', hkv'⟩, ?_, ?_⟩
        · rw [← e6]; exact ⟨kE', hkE'⟩
        · show vm₁.assignable _ _ = true
          rw [hal.assignable, ← e6]
          exact g9)
    (g := F0 m pc ls (.int n :: .int dp :: .ref a :: .int sp :: .ref b :: rest)) rfl (by rw [hml]) (rest := rest) rfl (by rw [hb]; exact hdg) hframes (by show 2 * 0 + _ + _ ≤ _; have hw9 : nativeFrameWords "java/lang/System" "arraycopy" 5 ≤ 20 := (by decide); unfold zW at hw; omega)
  have e1 : copied (arrV (G.2 11) (ztg σ b).2.2 (fun j => va_rf (zar σ 11 b j))) (arrV (G.2 11) (ztg σ a).2.2 (fun j => va_rf (zar σ 11 a j))) sp dp n = arrV (G.2 11) (ztg σ a).2.2 (fun j => va_rf (va_cpy (zar σ 11 b) (zar σ 11 a) sp.toNatClampNeg dp.toNatClampNeg n.toNatClampNeg j)) :=
    va_copied (fun z => va_rf z) (G.2 11) (G.2 11) (zar σ 11 b) (zar σ 11 a) h4
  rw [e1] at X' step
  have hl : a < H.size := (Array.getElem?_eq_some_iff.mp hc1).1
  have hl2 : a < T.heap.size := by rw [hT]; exact hl
  generalize hXX : arrV (G.2 11) (ztg σ a).2.2 (fun j => va_rf (va_cpy (zar σ 11 b) (zar σ 11 a) sp.toNatClampNeg dp.toNatClampNeg n.toNatClampNeg j)) = XX at X' step
  have hheap : ((T.setVm vm').setCell a XX).heap = H.setIfInBounds a XX := by rw [← hT]; rfl
  have oq : ∀ q : Nat, q ≠ a → (H.setIfInBounds a XX)[q]? = H[q]? := fun q hq => by simp [Array.getElem?_setIfInBounds, Ne.symm hq]
  have f1 : (H.setIfInBounds a XX)[a]? = some XX := by simp [Array.getElem?_setIfInBounds, hl]
  have hGF : gRep G lo s (sarW σ 11 a (va_cpy (zar σ 11 b) (zar σ 11 a) sp.toNatClampNeg dp.toNatClampNeg n.toNatClampNeg)) (H.setIfInBounds a XX) := by
    refine hG.one (a := a) ?_ (fun b hb => ⟨rfl, fun c' k' => rfl, fun t j => rfl, fun t j => if_neg (fun z => hb z.2)⟩) (fun q g1 g2 => oq q g1)
    have hne : ∀ z : Nat, (ztg σ a).1 = z → z ≠ 3 → False := fun z h1 h2 => h2 (h1.symm.trans ta1)
    refine ⟨fun h => (hne _ h (by decide)).elim, fun h => (hne _ h (by decide)).elim, fun _ => ⟨?_, hlo⟩, fun h => (hne _ h (by decide)).elim, fun h => (hne _ h (by decide)).elim⟩
    show (H.setIfInBounds a XX)[a]? = some (arrV (G.2 (ztg σ a).2.1) (ztg σ a).2.2 (fun j => va_rf (zar (sarW σ 11 a _) (ztg σ a).2.1 a j)))
    rw [f1, ta2, ← hXX]
    congr 2
    funext j
    exact congrArg va_rf (if_pos ⟨rfl, rfl⟩ : zar (sarW σ 11 a (va_cpy (zar σ 11 b) (zar σ 11 a) sp.toNatClampNeg dp.toNatClampNeg n.toNatClampNeg)) 11 a j = _).symm
  obtain ⟨t, a1, b1⟩ := kk _ _ (by simp) hGF ⟨by simp; exact hS0.1, fun q g1 g2 => by
      rw [oq q (fun e => g2 (by rw [e]; exact hlo))]
      exact hS0.2.1 q g1 g2, fun q hq => by
      rcases List.mem_append.mp hq with h | h
      · exact hS0.2.2 q h
      · obtain ⟨z, -, hz⟩ := List.mem_map.mp h
        rw [← hz]
        exact hlo⟩ _ hheap X'
  exact ⟨t, step t a1, b1⟩
end ZM
end
section
/-! ONE INSTRUCTION of any kind, but calls and returns -/
theorem fld_ok {M n x y : Nat} (ok : zPF.any (fun q => q.1 == mC M && q.2.1 == n && q.2.2.1 == x && q.2.2.2.1 == y) = true) : ∃ ref, Cond.fieldLink (cNm (mC M)) n ref ((cRow x).2.1 y).2.1 ((cRow x).2.1 y).2.2.1 ∈ bigW ∧ x < 14 ∧ y < (cRow x).2.2 ∧ (ref = ((cRow x).2.1 y).1 ∨ Cond.sameField ref ((cRow x).2.1 y).1 ((cRow x).2.1 y).2.1 ((cRow x).2.1 y).2.2.1 ∈ bigW) := by
  obtain ⟨q, hq, h⟩ := any_mem ok
  simp only [Bool.and_eq_true, beq_iff_eq] at h
  obtain ⟨⟨⟨h1, h2⟩, h3⟩, h4⟩ := h
  obtain ⟨g1, g2, g3, g4⟩ := pf_ok q hq
  rw [← h1, ← h2, ← h3, ← h4]
  exact ⟨_, g1, g2, g3, g4⟩
theorem cls_lk {M n x : Nat} (ok : zPC.any (fun q => q.1 == mC M && q.2.1 == n && q.2.2 == x) = true) : Cond.classLink (cNm (mC M)) n (cNm x) ∈ bigW := by
  obtain ⟨q, hq, h⟩ := any_mem ok
  simp only [Bool.and_eq_true, beq_iff_eq] at h
  obtain ⟨⟨h1, h2⟩, h3⟩ := h
  rw [← h1, ← h2, ← h3]
  exact pc_ok q hq
theorem inv_ok {M n x y : Nat} {z : Int} (ok : zPI.any (fun q => q.1 == mC M && q.2.1 == n && q.2.2.1 == x && q.2.2.2.1 == y && (q.2.2.2.2 : Int) == z) = true) : ∃ k : Nat, (k : Int) = z ∧ piOk (mC M, n, x, y, k) ∧ (mC M, n, x, y, k) ∈ zPI := by
  obtain ⟨q, hq, h⟩ := any_mem ok
  simp only [Bool.and_eq_true, beq_iff_eq] at h
  obtain ⟨⟨⟨⟨h1, h2⟩, h3⟩, h4⟩, h5⟩ := h
  refine ⟨q.2.2.2.2, h5, ?_⟩
  rw [← h1, ← h2, ← h3, ← h4]
  exact ⟨pi_ok q hq, hq⟩
theorem zLd_spec {p : Value → Bool} {k npc : Nat} {L : List (Option Value)} {S : List Value} {σ : zSt} {q : zC} (h : zLd p k npc L S σ = some q) : ∃ v, L[k]? = some (some v) ∧ p v = true ∧ q = (npc, L, v :: S, σ) := by
  unfold zLd at h
  split at h
  · rename_i v hv
    split at h
    · rename_i hp
      cases h
      exact ⟨v, hv, hp, rfl⟩
    · cases h
  · cases h
theorem zSto_spec {p : Value → Bool} {k nL npc : Nat} {L : List (Option Value)} {S : List Value} {σ : zSt} {q : zC} (h : zSto p k nL npc L S σ = some q) : ∃ v r, S = v :: r ∧ p v = true ∧ k < nL ∧ zNL L k = true ∧ q = (npc, L.set k (some v), r, σ) := by
  unfold zSto at h
  split at h
  · rename_i v r
    split at h
    · rename_i hp
      cases h
      exact ⟨v, r, rfl, hp.1, hp.2.1, hp.2.2, rfl⟩
    · cases h
  · cases h
theorem zStoL_spec {k nL npc : Nat} {L : List (Option Value)} {S : List Value} {σ : zSt} {q : zC} (h : zStoL k nL npc L S σ = some q) : ∃ v r, S = .long v :: r ∧ k + 1 < nL ∧ zNL L k = true ∧ q = (npc, (L.set k (some (.long v))).set (k + 1) none, r, σ) := by
  unfold zStoL at h
  split at h
  · rename_i v r
    split at h
    · rename_i hp
      cases h
      exact ⟨v, r, rfl, hp.1, hp.2, rfl⟩
    · cases h
  · cases h
theorem zInc_spec {k nL pc : Nat} {c : Int} {L : List (Option Value)} {S : List Value} {σ : zSt} {q : zC} (h : zInc k c nL pc L S σ = some q) : ∃ v, L[k]? = some (some (.int v)) ∧ k < nL ∧ zNL L k = true ∧ q = (pc + 3, L.set k (some (.int (v + Int32.ofInt c))), S, σ) := by
  unfold zInc at h
  split at h
  · rename_i v hv
    split at h
    · rename_i hp
      cases h
      exact ⟨v, hv, hp.1, hp.2, rfl⟩
    · cases h
  · cases h
theorem zBI_spec {f : Int32 → Int32 → Option Int32} {pc : Nat} {L : List (Option Value)} {S : List Value} {σ : zSt} {q : zC} (h : zBI f pc L S σ = some q) : ∃ x y v r, S = .int y :: .int x :: r ∧ f x y = some v ∧ q = (pc + 1, L, .int v :: r, σ) := by
  unfold zBI at h
  split at h
  · rename_i y x r
    split at h
    · rename_i v hv
      cases h
      exact ⟨x, y, v, r, rfl, hv, rfl⟩
    · cases h
  · cases h
theorem zBL_spec {f : Int64 → Int64 → Value} {pc : Nat} {L : List (Option Value)} {S : List Value} {σ : zSt} {q : zC} (h : zBL f pc L S σ = some q) : ∃ x y r, S = .long y :: .long x :: r ∧ q = (pc + 1, L, f x y :: r, σ) := by
  unfold zBL at h
  split at h
  · rename_i y x r
    cases h
    exact ⟨x, y, r, rfl, rfl⟩
  · cases h
theorem zSL_spec {f : Int64 → Int32 → Int64} {pc : Nat} {L : List (Option Value)} {S : List Value} {σ : zSt} {q : zC} (h : zSL f pc L S σ = some q) : ∃ x y r, S = .int y :: .long x :: r ∧ q = (pc + 1, L, .long (f x y) :: r, σ) := by
  unfold zSL at h
  split at h
  · rename_i y x r
    cases h
    exact ⟨x, y, r, rfl, rfl⟩
  · cases h
theorem zJ_spec {pc t : Nat} {off : Int} (h : zJ pc off = some t) : (pc : Int) + off = (t : Int) := by
  unfold zJ at h
  split at h
  · cases h; omega
  · cases h
theorem zGo_spec {b : Bool} {pc : Nat} {off : Int} {L : List (Option Value)} {r : List Value} {σ : zSt} {q : zC} (h : zGo b pc off L r σ = some q) : (b = true ∧ ∃ t : Nat, (pc : Int) + off = (t : Int) ∧ q = (t, L, r, σ)) ∨ (b = false ∧ q = (pc + 3, L, r, σ)) := by
  unfold zGo at h
  cases b with
  | true =>
    rw [if_pos rfl] at h
    split at h
    · rename_i t ht
      cases h
      exact Or.inl ⟨rfl, t, zJ_spec ht, rfl⟩
    · cases h
  | false =>
    rw [if_neg (by decide)] at h
    cases h
    exact Or.inr ⟨rfl, rfl⟩
theorem zIf_spec {f : Int32 → Bool} {pc : Nat} {off : Int} {L : List (Option Value)} {S : List Value} {σ : zSt} {q : zC} (h : zIf f pc off L S σ = some q) : ∃ x r, S = .int x :: r ∧ zGo (f x) pc off L r σ = some q := by
  unfold zIf at h
  split at h
  · exact ⟨_, _, rfl, h⟩
  · cases h
theorem zIc_spec {f : Int32 → Int32 → Bool} {pc : Nat} {off : Int} {L : List (Option Value)} {S : List Value} {σ : zSt} {q : zC} (h : zIc f pc off L S σ = some q) : ∃ x y r, S = .int y :: .int x :: r ∧ zGo (f x y) pc off L r σ = some q := by
  unfold zIc at h
  split at h
  · exact ⟨_, _, _, rfl, h⟩
  · cases h
theorem zAc_spec {ne : Bool} {pc : Nat} {off : Int} {L : List (Option Value)} {S : List Value} {σ : zSt} {q : zC} (h : zAc ne pc off L S σ = some q) : ∃ x y r, S = .ref y :: .ref x :: r ∧ zGo (ne != (x == y)) pc off L r σ = some q := by
  unfold zAc at h
  split at h
  · exact ⟨_, _, _, rfl, h⟩
  · cases h
def zCtx (p : Program) (s : State) (m : MethodId) (args : Array Value) (meth : Method) (c : Code) (G : zG) (lo M e mi : Nat) : Prop :=
  p.tables.exec = Jvm.exec ∧ c.code = mB M ∧ c.maxLocals = mL M ∧ s.vm.findClass (cNm (mC M)) = some m.cls ∧ (∀ w ∈ bigW, w.before args s = true) ∧ ((mY M).name = "<init>" → meth.name = "<init>") ∧ gK G s ∧ gS lo e mi s ∧ lo ≤ s.heap.size
theorem zisI_of {v : Value} (h : zisI v = true) : ∃ x, v = .int x := by cases v <;> first | exact ⟨_, rfl⟩ | cases h
theorem zisL_of {v : Value} (h : zisL v = true) : ∃ x, v = .long x := by cases v <;> first | exact ⟨_, rfl⟩ | cases h
theorem zisA_of {v : Value} (h : zisA v = true) : ∃ x, v = .ref x := by cases v <;> first | exact ⟨_, rfl⟩ | cases h
theorem zPv_spec {σ σ' : zSt} {ci k a : Nat} {v : Value} (hc : ci < 14) (hk : k < (cRow ci).2.2) (h : zPv σ ci k a v = some σ') : narrow (cTy ci k) v = v ∧ fits (cTy ci k) v = true ∧ ztg σ' = ztg σ ∧ (∀ c' k' b, zval σ' c' k' b = if c' = ci ∧ k' = k ∧ b = a then v else zval σ c' k' b) ∧ zai σ' = zai σ ∧ zar σ' = zar σ ∧ znx σ' = znx σ ∧ zsl σ' = zsl σ ∧ ze0 σ' = ze0 σ ∧ zmi σ' = zmi σ := by
  have hf := fty_ok ci hc k hk
  cases v with
  | int w =>
    unfold zPv at h
    dsimp only at h
    split at h
    · rename_i hw
      cases h
      have hfit : narrow (cTy ci k) (.int w) = .int w ∧ fits (cTy ci k) (.int w) = true ∧ fTy ci k ≠ 1 ∧ fTy ci k ≠ 2 := by
        rcases hf with ⟨f1, f2⟩ | ⟨f1, f2⟩ | ⟨f1, f2⟩ | ⟨f1, f2⟩
        · rw [f1, f2]; exact ⟨rfl, rfl, by decide, by decide⟩
        · rw [f1] at hw; rcases hw with hw | hw
          · cases hw
          · cases hw.1
        · rw [f1, f2]
          rcases hw with hw | ⟨-, rfl | rfl⟩
          · rw [f1] at hw; cases hw
          · exact ⟨rfl, rfl, by decide, by decide⟩
          · exact ⟨rfl, rfl, by decide, by decide⟩
        · rw [f1] at hw; rcases hw with hw | hw
          · cases hw
          · cases hw.1
      refine ⟨hfit.1, hfit.2.1, rfl, fun c' k' b => ?_, rfl, rfl, rfl, rfl, rfl, rfl⟩
      by_cases hq : c' = ci ∧ k' = k ∧ b = a
      · rw [if_pos hq]
        obtain ⟨rfl, rfl, rfl⟩ := hq
        unfold zval
        rw [if_neg hfit.2.2.1, if_neg hfit.2.2.2]
        exact congrArg Value.int (if_pos ⟨rfl, rfl, rfl⟩)
      · rw [if_neg hq]
        have e1 : zfi (sfi σ ci k a w) c' k' b = zfi σ c' k' b := if_neg hq
        unfold zval
        rw [e1]
        rfl
    · cases h
  | long w =>
    unfold zPv at h
    dsimp only at h
    split at h
    · rename_i hw
      cases h
      have hfit : narrow (cTy ci k) (.long w) = .long w ∧ fits (cTy ci k) (.long w) = true := by
        rcases hf with ⟨f1, f2⟩ | ⟨f1, f2⟩ | ⟨f1, f2⟩ | ⟨f1, f2⟩
        · rw [f1] at hw; cases hw
        · rw [f2]; exact ⟨rfl, rfl⟩
        · rw [f1] at hw; cases hw
        · rw [f1] at hw; cases hw
      refine ⟨hfit.1, hfit.2, rfl, fun c' k' b => ?_, rfl, rfl, rfl, rfl, rfl, rfl⟩
      by_cases hq : c' = ci ∧ k' = k ∧ b = a
      · rw [if_pos hq]
        obtain ⟨rfl, rfl, rfl⟩ := hq
        unfold zval
        rw [if_pos hw]
        exact congrArg Value.long (if_pos ⟨rfl, rfl, rfl⟩)
      · rw [if_neg hq]
        have e1 : zfl (sfl σ ci k a w) c' k' b = zfl σ c' k' b := if_neg hq
        unfold zval
        rw [e1]
        rfl
    · cases h
  | ref w =>
    unfold zPv at h
    dsimp only at h
    split at h
    · rename_i hw
      cases h
      have hfit : narrow (cTy ci k) (.ref w) = .ref w ∧ fits (cTy ci k) (.ref w) = true := by
        rcases hf with ⟨f1, f2⟩ | ⟨f1, f2⟩ | ⟨f1, f2⟩ | ⟨f1, f2⟩
        · rw [f1] at hw; cases hw
        · rw [f1] at hw; cases hw
        · rw [f1] at hw; cases hw
        · cases hh : cTy ci k <;> rw [hh] at f2 <;> first | exact ⟨rfl, rfl⟩ | cases f2
      refine ⟨hfit.1, hfit.2, rfl, fun c' k' b => ?_, rfl, rfl, rfl, rfl, rfl, rfl⟩
      by_cases hq : c' = ci ∧ k' = k ∧ b = a
      · rw [if_pos hq]
        obtain ⟨rfl, rfl, rfl⟩ := hq
        unfold zval
        rw [if_neg (by rw [hw]; decide), if_pos hw]
        exact congrArg va_rf (if_pos ⟨rfl, rfl, rfl⟩)
      · rw [if_neg hq]
        have e1 : zfr (sfr σ ci k a (some w)) c' k' b = zfr σ c' k' b := if_neg hq
        unfold zval
        rw [e1]
        rfl
    · cases h
  | _ => cases h
end
section
/-! ONE INSTRUCTION of any kind, but calls and returns: what the machine over fields does, the JVM does -/
section ZO
variable {p : Program} {l : Launch} {e : Env} {R : Room} {s : State} {m : MethodId} {args : Array Value} {below : List Frame} {meth : Method} {c : Code} {H : Heap} {locs : List Loc} {Q : State → Prop}
variable {ls : Array Slot} {G : zG} {lo M pc x y nx0 sl0 : Nat} {z : Int} {L : List (Option Value)} {S : List Value} {σ : zSt} {q : zC} {i : Instr}
theorem o_ld (hexec : p.tables.exec = Jvm.exec) (hb : c.code = mB M) (hl : zLH ls (mL M) L) {f : Value → Bool} {k len : Nat} (h1 : zLd f k (pc + len) L S σ = some q) {cells slots : Nat}
    (row : ∀ v, f v = true → ls[k]? = some (Slot.val v) → W p l e R s m args below meth c H locs cells slots Q (F0 m (pc + len) ls (v :: S)) → W p l e R s m args below meth c H locs cells slots Q (F0 m pc ls S))
    (kk : W p l e R s m args below meth c H locs cells slots Q (F0 m q.1 ls q.2.2.1)) : W p l e R s m args below meth c H locs cells slots Q (F0 m pc ls S) := by
  obtain ⟨v, h2, h3, rfl⟩ := zLd_spec h1
  exact row v h3 (hl.at h2) kk
theorem o_if (hexec : p.tables.exec = Jvm.exec) (hb : c.code = mB M) {f : Int32 → Bool} {P : Int32 → Prop} {off : Int} (hf : ∀ v, f v = true ↔ P v) (h1 : zIf f pc off L S σ = some q) {cells slots : Nat}
    (row : ∀ (v : Int32) (r : List Value) (t : Nat), (pc : Int) + off = (t : Int) → (P v → W p l e R s m args below meth c H locs cells slots Q (F0 m t ls r)) → (¬ P v → W p l e R s m args below meth c H locs cells slots Q (F0 m (pc + 3) ls r)) → W p l e R s m args below meth c H locs cells slots Q (F0 m pc ls (.int v :: r)))
    (ht0 : ∃ t : Nat, (pc : Int) + off = (t : Int))
    (kk : W p l e R s m args below meth c H locs cells slots Q (F0 m q.1 ls q.2.2.1)) : W p l e R s m args below meth c H locs cells slots Q (F0 m pc ls S) := by
  obtain ⟨v, r, rfl, h2⟩ := zIf_spec h1
  rcases zGo_spec h2 with ⟨h3, t, h4, rfl⟩ | ⟨h3, rfl⟩
  · exact row v r t h4 (fun _ => kk) (fun h => absurd ((hf v).mp h3) h)
  · obtain ⟨t, h4⟩ := ht0
    exact row v r t h4 (fun h => by rw [(hf v).mpr h] at h3; cases h3) (fun _ => kk)
theorem o_ic (hexec : p.tables.exec = Jvm.exec) (hb : c.code = mB M) {f : Int32 → Int32 → Bool} {P : Int32 → Int32 → Prop} {off : Int} (hf : ∀ v w, f v w = true ↔ P v w) (h1 : zIc f pc off L S σ = some q) {cells slots : Nat}
    (row : ∀ (v w : Int32) (r : List Value) (t : Nat), (pc : Int) + off = (t : Int) → (P v w → W p l e R s m args below meth c H locs cells slots Q (F0 m t ls r)) → (¬ P v w → W p l e R s m args below meth c H locs cells slots Q (F0 m (pc + 3) ls r)) → W p l e R s m args below meth c H locs cells slots Q (F0 m pc ls (.int w :: .int v :: r)))
    (ht0 : ∃ t : Nat, (pc : Int) + off = (t : Int))
    (kk : W p l e R s m args below meth c H locs cells slots Q (F0 m q.1 ls q.2.2.1)) : W p l e R s m args below meth c H locs cells slots Q (F0 m pc ls S) := by
  obtain ⟨v, w, r, rfl, h2⟩ := zIc_spec h1
  rcases zGo_spec h2 with ⟨h3, t, h4, rfl⟩ | ⟨h3, rfl⟩
  · exact row v w r t h4 (fun _ => kk) (fun h => absurd ((hf v w).mp h3) h)
  · obtain ⟨t, h4⟩ := ht0
    exact row v w r t h4 (fun h => by rw [(hf v w).mpr h] at h3; cases h3) (fun _ => kk)
/-- the offsets of jumps stay in the method -/
def zOff (e : zE) : Bool :=
  match e with
  | (pc, .ifCond _ off, _) | (pc, .if_icmp _ off, _) | (pc, .if_acmp _ off, _) => decide (0 ≤ (pc : Int) + off)
  | _ => true
set_option maxRecDepth 100000 in
theorem zOff_ok : ∀ t ∈ zT, t.2.2.2.2.2.2.2.all zOff = true := by decide +kernel
theorem zOff_at {r : Instr × Nat × Nat × Int} (h : zcode M pc = some r) : zOff (pc, r) = true :=
  List.all_eq_true.mp (zOff_ok _ (mE_mem h)) _ (zFind_mem h)
def zDims (e : zE) : Bool :=
  match e with
  | (_, .multianewarray _ d, _) => d == 2
  | _ => true
set_option maxRecDepth 100000 in
theorem zDims_ok : ∀ t ∈ zT, t.2.2.2.2.2.2.2.all zDims = true := by decide +kernel
theorem zDims_at {r : Instr × Nat × Nat × Int} (h : zcode M pc = some r) : zDims (pc, r) = true :=
  List.all_eq_true.mp (zDims_ok _ (mE_mem h)) _ (zFind_mem h)
theorem off_t {off : Int} (h : decide (0 ≤ (pc : Int) + off) = true) : ∃ t : Nat, (pc : Int) + off = (t : Int) := ⟨((pc : Int) + off).toNat, by have := of_decide_eq_true h; omega⟩
set_option maxHeartbeats 4000000 in
theorem z1_sound (C : zCtx p s m args meth c G lo M (ze0 σ) (zmi σ)) (hc : zcode M pc = some (i, x, y, z)) (h1 : z1 i x y z (mL M) pc L S σ = some q) (hsz : H.size = znx σ) (hG : gRep G lo s σ H) (hS : va_S (fun q => lo ≤ q) s.heap H locs) (hl : zLH ls (mL M) L) (hfr : mDep M ≤ R.frames) (hlo : mLoc M ≤ R.locals)
    (hn0 : nx0 ≤ znx σ) (hs0 : sl0 ≤ zsl σ) (hcR : znx q.2.2.2 - nx0 ≤ R.cells) (hsR : zsl q.2.2.2 - sl0 ≤ R.slots)
    (kk : ∀ (H1 : Heap) (locs1 : List Loc) (ls1 : Array Slot), H1.size = znx q.2.2.2 → gRep G lo s q.2.2.2 H1 → va_S (fun q => lo ≤ q) s.heap H1 locs1 → zLH ls1 (mL M) q.2.1 → W p l e R s m args below meth c H1 locs1 (znx q.2.2.2 - nx0) (zsl q.2.2.2 - sl0) Q (F0 m q.1 ls1 q.2.2.1)) : W p l e R s m args below meth c H locs (znx σ - nx0) (zsl σ - sl0) Q (F0 m pc ls S) := by
  obtain ⟨hx, hb, hml, hown, hts, hname, hK, hgS, hlo0⟩ := C
  have hd := zcode_dec hc
  have ok := zcode_ok hc
  have put := zPut_at hc
  have hoff := zOff_at hc
  have hml' : c.maxLocals = ls.size := hml.trans hl.1.symm
  cases i with
  | iconst n => cases h1; exact lv_iconst hx hb hd rfl (kk H locs ls hsz hG hS hl)
  | bipush n => cases h1; exact lv_bipush hx hb hd rfl (kk H locs ls hsz hG hS hl)
  | sipush n => cases h1; exact lv_sipush hx hb hd rfl (kk H locs ls hsz hG hS hl)
  | aconst_null => cases h1; exact lv_null hx hb hd (kk H locs ls hsz hG hS hl)
  | lconst n => cases h1; exact lv_lconst hx hb hd rfl (kk H locs ls hsz hG hS hl)
  | ldc n =>
    replace h1 : (if x = 0 then some (pc + 2, L, Value.int (Int32.ofInt z) :: S, σ) else some (pc + 2, L, Value.ref (zmi σ) :: S, σ)) = some q := h1
    have ok : (if x = 0 then zPK.any (fun q => q.1 == mC M && q.2.1 == n && q.2.2 == z) else mC M == 16 && n == 110) = true := ok
    by_cases hx0 : x = 0
    · rw [if_pos hx0] at h1 ok
      cases h1
      obtain ⟨w, hw, h⟩ := any_mem ok
      simp only [Bool.and_eq_true, beq_iff_eq] at h
      have h2 := pk_ok w hw
      unfold pkOk at h2
      rw [h.1.1, h.1.2, h.2] at h2
      exact lv_ldc hx hb hown (hts _ h2) hd (kk H locs ls hsz hG hS hl)
    · rw [if_neg hx0] at h1 ok
      cases h1
      simp only [Bool.and_eq_true, beq_iff_eq] at ok
      have hown2 := hown
      rw [ok.1] at hown2
      have h2 := hts _ w_ldcM
      rw [← ok.2] at h2
      exact va_ldcM hx hb hown2 h2 hgS.2.1 hd (kk H locs ls hsz hG hS hl)
  | ldc2_w n =>
    cases h1
    obtain ⟨w, hw, h⟩ := any_mem (show zPL.any (fun q => q.1 == mC M && q.2.1 == n && q.2.2 == z) = true from ok)
    simp only [Bool.and_eq_true, beq_iff_eq] at h
    have h2 := pl_ok w hw
    unfold plOk at h2
    rw [h.1.1, h.1.2, h.2] at h2
    exact lv_ldc2 hx hb hown (hts _ h2) hd (kk H locs ls hsz hG hS hl)
  | iload k => exact o_ld hx hb hl h1 (fun v hv ha k2 => by obtain ⟨w, rfl⟩ := zisI_of hv; exact lv_iload hx hb hd ha k2) (by obtain ⟨v, -, -, rfl⟩ := zLd_spec h1; exact kk H locs ls hsz hG hS hl)
  | iload_n k => exact o_ld hx hb hl h1 (fun v hv ha k2 => by obtain ⟨w, rfl⟩ := zisI_of hv; exact lv_iload_n hx hb hd rfl ha k2) (by obtain ⟨v, -, -, rfl⟩ := zLd_spec h1; exact kk H locs ls hsz hG hS hl)
  | lload k => exact o_ld hx hb hl h1 (fun v hv ha k2 => by obtain ⟨w, rfl⟩ := zisL_of hv; exact lv_lload hx hb hd ha k2) (by obtain ⟨v, -, -, rfl⟩ := zLd_spec h1; exact kk H locs ls hsz hG hS hl)
  | lload_n k => exact o_ld hx hb hl h1 (fun v hv ha k2 => by obtain ⟨w, rfl⟩ := zisL_of hv; exact lv_lload_n hx hb hd rfl ha k2) (by obtain ⟨v, -, -, rfl⟩ := zLd_spec h1; exact kk H locs ls hsz hG hS hl)
  | aload k => exact o_ld hx hb hl h1 (fun v hv ha k2 => by obtain ⟨w, rfl⟩ := zisA_of hv; exact lv_aload hx hb hd ha k2) (by obtain ⟨v, -, -, rfl⟩ := zLd_spec h1; exact kk H locs ls hsz hG hS hl)
  | aload_n k => exact o_ld hx hb hl h1 (fun v hv ha k2 => by obtain ⟨w, rfl⟩ := zisA_of hv; exact lv_aload_n hx hb hd rfl ha k2) (by obtain ⟨v, -, -, rfl⟩ := zLd_spec h1; exact kk H locs ls hsz hG hS hl)
  | istore k =>
    obtain ⟨v, r, rfl, h2, h3, h4, rfl⟩ := zSto_spec h1
    obtain ⟨w, rfl⟩ := zisI_of h2
    exact lv_istore hx hb hd hl.has h3 rfl (fun ls1 g => kk H locs ls1 hsz hG hS (zLH.set1 h4 g))
  | istore_n k =>
    obtain ⟨v, r, rfl, h2, h3, h4, rfl⟩ := zSto_spec h1
    obtain ⟨w, rfl⟩ := zisI_of h2
    exact lv_istore_n hx hb hd rfl hl.has h3 rfl (fun ls1 g => kk H locs ls1 hsz hG hS (zLH.set1 h4 g))
  | astore k =>
    obtain ⟨v, r, rfl, h2, h3, h4, rfl⟩ := zSto_spec h1
    obtain ⟨w, rfl⟩ := zisA_of h2
    exact lv_astore hx hb hd hl.has h3 rfl (fun ls1 g => kk H locs ls1 hsz hG hS (zLH.set1 h4 g))
  | astore_n k =>
    obtain ⟨v, r, rfl, h2, h3, h4, rfl⟩ := zSto_spec h1
    obtain ⟨w, rfl⟩ := zisA_of h2
    exact lv_astore_n hx hb hd rfl hl.has h3 rfl (fun ls1 g => kk H locs ls1 hsz hG hS (zLH.set1 h4 g))
  | lstore k =>
    obtain ⟨v, r, rfl, h3, h4, rfl⟩ := zStoL_spec h1
    exact lv_lstore hx hb hd hl.has h3 rfl (fun ls1 g => kk H locs ls1 hsz hG hS (zLH.set2 h4 g))
  | lstore_n k =>
    obtain ⟨v, r, rfl, h3, h4, rfl⟩ := zStoL_spec h1
    exact lv_lstore_n hx hb hd rfl hl.has h3 rfl (fun ls1 g => kk H locs ls1 hsz hG hS (zLH.set2 h4 g))
  | iinc k n =>
    obtain ⟨v, h2, h3, h4, rfl⟩ := zInc_spec h1
    obtain ⟨j, hj⟩ := List.getElem?_of_mem (zPr_mem.mpr ⟨Nat.zero_le _, h2⟩ : (k, Value.int v) ∈ zPr 0 L)
    exact lv_iinc (v := v + Int32.ofInt n) hx hb hd hl.has (k := j) hj rfl h3 rfl (fun ls1 g => kk H locs ls1 hsz hG hS (zLH.set1 h4 g))
  | iadd => obtain ⟨v, w, u, r, rfl, h2, rfl⟩ := zBI_spec (show zBI (fun a b => some (a + b)) pc L S σ = some q from h1); cases h2; exact lv_iadd hx hb hd (kk H locs ls hsz hG hS hl)
  | isub => obtain ⟨v, w, u, r, rfl, h2, rfl⟩ := zBI_spec (show zBI (fun a b => some (a - b)) pc L S σ = some q from h1); cases h2; exact lv_isub hx hb hd (kk H locs ls hsz hG hS hl)
  | imul => obtain ⟨v, w, u, r, rfl, h2, rfl⟩ := zBI_spec (show zBI (fun a b => some (a * b)) pc L S σ = some q from h1); cases h2; exact lv_imul hx hb hd (kk H locs ls hsz hG hS hl)
  | iand => obtain ⟨v, w, u, r, rfl, h2, rfl⟩ := zBI_spec (show zBI (fun a b => some (a &&& b)) pc L S σ = some q from h1); cases h2; exact lv_iand hx hb hd (kk H locs ls hsz hG hS hl)
  | ixor => obtain ⟨v, w, u, r, rfl, h2, rfl⟩ := zBI_spec (show zBI (fun a b => some (a ^^^ b)) pc L S σ = some q from h1); cases h2; exact lv_ixor hx hb hd (kk H locs ls hsz hG hS hl)
  | ishr => obtain ⟨v, w, u, r, rfl, h2, rfl⟩ := zBI_spec (show zBI (fun a b => some (a >>> (b &&& 31))) pc L S σ = some q from h1); cases h2; exact lv_ishr hx hb hd (kk H locs ls hsz hG hS hl)
  | idiv =>
    obtain ⟨v, w, u, r, rfl, h2, rfl⟩ := zBI_spec h1
    unfold zDiv at h2
    split at h2
    · cases h2
    · rename_i hne
      cases h2; exact lv_idiv hx hb hd hne (kk H locs ls hsz hG hS hl)
  | irem =>
    obtain ⟨v, w, u, r, rfl, h2, rfl⟩ := zBI_spec h1
    unfold zDiv at h2
    split at h2
    · cases h2
    · rename_i hne
      cases h2; exact lv_irem hx hb hd hne (kk H locs ls hsz hG hS hl)
  | ladd => obtain ⟨v, w, r, rfl, rfl⟩ := zBL_spec h1; exact lv_ladd hx hb hd (kk H locs ls hsz hG hS hl)
  | lsub => obtain ⟨v, w, r, rfl, rfl⟩ := zBL_spec h1; exact lv_lsub hx hb hd (kk H locs ls hsz hG hS hl)
  | lmul => obtain ⟨v, w, r, rfl, rfl⟩ := zBL_spec h1; exact lv_lmul hx hb hd (kk H locs ls hsz hG hS hl)
  | land => obtain ⟨v, w, r, rfl, rfl⟩ := zBL_spec h1; exact lv_land hx hb hd (kk H locs ls hsz hG hS hl)
  | lor => obtain ⟨v, w, r, rfl, rfl⟩ := zBL_spec h1; exact lv_lor hx hb hd (kk H locs ls hsz hG hS hl)
  | lxor => obtain ⟨v, w, r, rfl, rfl⟩ := zBL_spec h1; exact lv_lxor hx hb hd (kk H locs ls hsz hG hS hl)
  | lcmp => obtain ⟨v, w, r, rfl, rfl⟩ := zBL_spec h1; exact W.lcmp hx hb hd (kk H locs ls hsz hG hS hl)
  | lshl => obtain ⟨v, w, r, rfl, rfl⟩ := zSL_spec h1; exact lv_lshl hx hb hd rfl (kk H locs ls hsz hG hS hl)
  | lshr => obtain ⟨v, w, r, rfl, rfl⟩ := zSL_spec h1; exact lv_lshr hx hb hd rfl (kk H locs ls hsz hG hS hl)
  | lushr => obtain ⟨v, w, r, rfl, rfl⟩ := zSL_spec h1; exact lv_lushr hx hb hd rfl (kk H locs ls hsz hG hS hl)
  | i2l =>
    unfold z1 at h1
    dsimp only at h1
    split at h1
    · cases h1; exact lv_i2l hx hb hd rfl (kk H locs ls hsz hG hS hl)
    · cases h1
  | l2i =>
    unfold z1 at h1
    dsimp only at h1
    split at h1
    · cases h1; exact lv_l2i hx hb hd rfl (kk H locs ls hsz hG hS hl)
    · cases h1
  | ifCond cnd off =>
    have ht0 := off_t (show decide (0 ≤ (pc : Int) + off) = true from hoff)
    have k2 : W p l e R s m args below meth c H locs (znx σ - nx0) (zsl σ - sl0) Q (F0 m q.1 ls q.2.2.1) := by
      cases cnd <;> (obtain ⟨v, r, rfl, h2⟩ := zIf_spec h1; rcases zGo_spec h2 with ⟨h3, t, h4, rfl⟩ | ⟨h3, rfl⟩ <;> exact kk H locs ls hsz hG hS hl)
    cases cnd with
    | eq => exact o_if hx hb (P := fun a => a = 0) (fun v => by simp) h1 (fun v r t h4 ka kb => lv_if_eq hx hb hd h4 ka kb) ht0 k2
    | ne => exact o_if hx hb (P := fun a => ¬ a = 0) (fun v => by simp) h1 (fun v r t h4 ka kb => lv_if_ne hx hb hd h4 ka (fun h => kb (fun g => g h))) ht0 k2
    | lt => exact o_if hx hb (P := fun a => a < 0) (fun v => by simp) h1 (fun v r t h4 ka kb => lv_if_lt hx hb hd h4 ka kb) ht0 k2
    | ge => exact o_if hx hb (P := fun a => 0 ≤ a) (fun v => by simp) h1 (fun v r t h4 ka kb => lv_if_ge hx hb hd h4 ka kb) ht0 k2
    | gt => exact o_if hx hb (P := fun a => 0 < a) (fun v => by simp) h1 (fun v r t h4 ka kb => lv_if_gt hx hb hd h4 ka kb) ht0 k2
    | le => exact o_if hx hb (P := fun a => a ≤ 0) (fun v => by simp) h1 (fun v r t h4 ka kb => lv_if_le hx hb hd h4 ka kb) ht0 k2
  | if_icmp cnd off =>
    have ht0 := off_t (show decide (0 ≤ (pc : Int) + off) = true from hoff)
    have k2 : W p l e R s m args below meth c H locs (znx σ - nx0) (zsl σ - sl0) Q (F0 m q.1 ls q.2.2.1) := by
      cases cnd <;> (obtain ⟨v, w, r, rfl, h2⟩ := zIc_spec h1; rcases zGo_spec h2 with ⟨h3, t, h4, rfl⟩ | ⟨h3, rfl⟩ <;> exact kk H locs ls hsz hG hS hl)
    cases cnd with
    | eq => exact o_ic hx hb (P := fun a b => a = b) (fun v w => by simp) h1 (fun v w r t h4 ka kb => lv_icmp_eq hx hb hd h4 ka kb) ht0 k2
    | ne => exact o_ic hx hb (P := fun a b => ¬ a = b) (fun v w => by simp) h1 (fun v w r t h4 ka kb => lv_icmp_ne hx hb hd h4 ka (fun h => kb (fun g => g h))) ht0 k2
    | lt => exact o_ic hx hb (P := fun a b => a < b) (fun v w => by simp) h1 (fun v w r t h4 ka kb => lv_icmp_lt hx hb hd h4 ka kb) ht0 k2
    | ge => exact o_ic hx hb (P := fun a b => b ≤ a) (fun v w => by simp) h1 (fun v w r t h4 ka kb => lv_icmp_ge hx hb hd h4 ka kb) ht0 k2
    | gt => exact o_ic hx hb (P := fun a b => b < a) (fun v w => by simp) h1 (fun v w r t h4 ka kb => lv_icmp_gt hx hb hd h4 ka kb) ht0 k2
    | le => exact o_ic hx hb (P := fun a b => a ≤ b) (fun v w => by simp) h1 (fun v w r t h4 ka kb => lv_icmp_le hx hb hd h4 ka kb) ht0 k2
  | if_acmp cnd off =>
    have ht0 := off_t (show decide (0 ≤ (pc : Int) + off) = true from hoff)
    obtain ⟨t0, ht0⟩ := ht0
    cases cnd with
    | eq =>
      obtain ⟨v, w, r, rfl, h2⟩ := zAc_spec h1
      rcases zGo_spec h2 with ⟨h3, t, h4, rfl⟩ | ⟨h3, rfl⟩
      · exact lv_acmp_eq (rx := some v) (ry := some w) hx hb hd h4 (fun _ => kk H locs ls hsz hG hS hl) (fun h => by simp at h3; exact absurd (congrArg some h3) h)
      · exact lv_acmp_eq (rx := some v) (ry := some w) hx hb hd ht0 (fun h => by cases h; simp at h3) (fun _ => kk H locs ls hsz hG hS hl)
    | ne =>
      obtain ⟨v, w, r, rfl, h2⟩ := zAc_spec h1
      rcases zGo_spec h2 with ⟨h3, t, h4, rfl⟩ | ⟨h3, rfl⟩
      · exact lv_acmp_ne (rx := some v) (ry := some w) hx hb hd h4 (fun _ => kk H locs ls hsz hG hS hl) (fun h => by cases h; simp at h3)
      · exact lv_acmp_ne (rx := some v) (ry := some w) hx hb hd ht0 (fun h => by simp at h3; exact absurd (congrArg some h3) h) (fun _ => kk H locs ls hsz hG hS hl)
  | goto off =>
    unfold z1 at h1
    dsimp only at h1
    split at h1
    · rename_i t ht
      cases h1; exact lv_goto hx hb hd (zJ_spec ht) (kk H locs ls hsz hG hS hl)
    · cases h1
  | tableswitch d lo9 hi offs =>
    replace h1 : zSw d lo9 hi offs pc L S σ = some q := h1
    unfold zSw at h1
    split at h1
    · rename_i v r
      split at h1
      · rename_i hout
        split at h1
        · rename_i t ht
          cases h1; exact lv_tableOut hx hb hd hout (zJ_spec ht) (kk H locs ls hsz hG hS hl)
        · cases h1
      · rename_i hout
        split at h1
        · rename_i off hoff9
          split at h1
          · rename_i t ht
            cases h1; exact lv_tableIn hx hb hd (fun g => hout (Or.inl g)) (fun g => hout (Or.inr g)) hoff9 (zJ_spec ht) (kk H locs ls hsz hG hS hl)
          · cases h1
        · cases h1
    · cases h1
  | dup =>
    replace h1 : zDup pc L S σ = some q := h1
    unfold zDup at h1
    split at h1
    · split at h1
      · rename_i hv
        cases h1; exact lv_dup hx hb hd hv (kk H locs ls hsz hG hS hl)
      · cases h1
    · cases h1
  | pop =>
    replace h1 : zPop pc L S σ = some q := h1
    unfold zPop at h1
    split at h1
    · split at h1
      · rename_i hv
        cases h1; exact lv_pop hx hb hd hv (kk H locs ls hsz hG hS hl)
      · cases h1
    · cases h1
  | dup_x1 =>
    replace h1 : zDupx pc L S σ = some q := h1
    unfold zDupx at h1
    split at h1
    · split at h1
      · rename_i hv
        cases h1; exact lv_dup_x1 hx hb hd hv.1 hv.2 (kk H locs ls hsz hG hS hl)
      · cases h1
    · cases h1
  | dup2 =>
    replace h1 : zDup2 pc L S σ = some q := h1
    unfold zDup2 at h1
    split at h1
    · split at h1
      · rename_i hv
        cases h1; exact lv_dup2_11 hx hb hd hv.1 hv.2 (kk H locs ls hsz hG hS hl)
      · cases h1
    · cases h1
  | getfield n =>
    replace h1 : zGet x y pc L S σ = some q := h1
    unfold zGet at h1
    split at h1
    · split at h1
      · rename_i ht
        split at h1
        · rename_i v hv
          cases h1
          have hv2 := zgv_val hv
          obtain ⟨ref, g1, g2, g3, g4⟩ := fld_ok (show zPF.any (fun q => q.1 == mC M && q.2.1 == n && q.2.2.1 == x && q.2.2.2.1 == y) = true from ok)
          refine s_get hx hb hts hown hK hG g3 (hts _ g1) (fun w hw => ?_) ht hd (by rw [hv2]; exact kk H locs ls hsz hG hS hl)
          rcases g4 with rfl | g4
          · exact hw
          · exact u_same (hts _ g4) w hw
        · cases h1
      · cases h1
    · cases h1
  | putfield n =>
    replace h1 : zPutf x y pc L S σ = some q := h1
    unfold zPutf at h1
    split at h1
    · split at h1
      · rename_i ht
        split at h1
        · rename_i σ1 hp
          cases h1
          obtain ⟨ref, g1, g2, g3, g4⟩ := fld_ok (show zPF.any (fun q => q.1 == mC M && q.2.1 == n && q.2.2.1 == x && q.2.2.2.1 == y) = true from ok)
          obtain ⟨f1, f2, f3, f4, f5, f6, f7, f8, -, -⟩ := zPv_spec g2 g3 hp
          have put := of_decide_eq_true (show decide (((cRow x).2.1 y).2.2.2 = false ∨ (((cRow x).2.1 y).2.2.2 = true ∧ ((cRow x).2.1 y).1 = cNm (mC M) ∧ (mY M).name = "<init>")) = true from put)
          refine s_put hx hb hts hown hK hG hS g3 (hts _ g1) (fun w hw => ?_) ?_ ht f1 f2 f3 f4 f5 f6 hd (fun H1 locs1 k1 k2 k3 => ?_)
          · rcases g4 with rfl | g4
            · exact hw
            · exact u_same (hts _ g4) w hw
          · rcases put with h | ⟨h, h2, h3⟩
            · exact Or.inl h
            · exact Or.inr ⟨h, h2, hname h3⟩
          · have := kk H1 locs1 ls (by rw [k1, hsz]; exact f7.symm) k2 k3 hl
            dsimp only at this
            rw [f7, f8] at this
            exact this
        · cases h1
      · cases h1
    · cases h1
  | iaload =>
    replace h1 : zIld .int pc L S σ = some q := h1
    unfold zIld at h1
    split at h1
    · split at h1
      · rename_i ht
        cases h1; exact s_ild (z := false) hx hb hK hG ht.1 ht.2.1 ht.2.2 hd (kk H locs ls hsz hG hS hl)
      · cases h1
    · cases h1
  | baload =>
    replace h1 : zIld .boolean pc L S σ = some q := h1
    unfold zIld at h1
    split at h1
    · split at h1
      · rename_i ht
        cases h1; exact s_ild (z := true) hx hb hK hG ht.1 ht.2.1 ht.2.2 hd (kk H locs ls hsz hG hS hl)
      · cases h1
    · cases h1
  | iastore =>
    replace h1 : zIst .int pc L S σ = some q := h1
    unfold zIst at h1
    split at h1
    · split at h1
      · rename_i ht
        cases h1; exact s_ist (z := false) hx hb hK hG hS ht.1 ht.2.1 ht.2.2.1 (fun h => by cases h) hd (fun H1 locs1 k1 k2 k3 => kk H1 locs1 ls (k1.trans hsz) k2 k3 hl)
      · cases h1
    · cases h1
  | bastore =>
    replace h1 : zIst .boolean pc L S σ = some q := h1
    unfold zIst at h1
    split at h1
    · split at h1
      · rename_i ht
        cases h1; exact s_ist (z := true) hx hb hK hG hS ht.1 ht.2.1 ht.2.2.1 (fun _ => ht.2.2.2 rfl) hd (fun H1 locs1 k1 k2 k3 => kk H1 locs1 ls (k1.trans hsz) k2 k3 hl)
      · cases h1
    · cases h1
  | aaload =>
    replace h1 : zAld pc L S σ = some q := h1
    unfold zAld at h1
    split at h1
    · split at h1
      · rename_i ht
        split at h1
        · rename_i w hw
          cases h1; exact s_ald hx hb hK hG ht.1 ht.2.1 ht.2.2 hw hd (kk H locs ls hsz hG hS hl)
        · cases h1
      · cases h1
    · cases h1
  | aastore =>
    replace h1 : zAst pc L S σ = some q := h1
    unfold zAst at h1
    split at h1
    · split at h1
      · rename_i ht
        cases h1; exact s_ast hx hb hK hgS.2.2.2.2.1 hG hS ht.1 ht.2.1 ht.2.2 hd (fun H1 locs1 k1 k2 k3 => kk H1 locs1 ls (k1.trans hsz) k2 k3 hl)
      · cases h1
    · split at h1
      · rename_i ht
        cases h1; exact s_astN hx hb hK hG hS ht.1 ht.2.1 ht.2.2 hd (fun H1 locs1 k1 k2 k3 => kk H1 locs1 ls (k1.trans hsz) k2 k3 hl)
      · cases h1
    · cases h1
  | arraylength =>
    replace h1 : zLn pc L S σ = some q := h1
    unfold zLn at h1
    split at h1
    · split at h1
      · rename_i ht
        cases h1; exact s_len hx hb hK hG ht hd (kk H locs ls hsz hG hS hl)
      · split at h1
        · rename_i ht
          cases h1; exact s_len0 hx hb hG ht hd (kk H locs ls hsz hG hS hl)
        · cases h1
    · cases h1
  | new n =>
    cases h1
    have ok := (Bool.and_eq_true_iff.mp (show (zPC.any (fun q => q.1 == mC M && q.2.1 == n && q.2.2 == x) && decide (x < 14)) = true from ok))
    have hcR : znx σ + 1 - nx0 ≤ R.cells := hcR
    have hsR : zsl σ + (cRow x).2.2 - sl0 ≤ R.slots := hsR
    exact s_new hx hb hts hown hK hG hS hlo0 hsz (of_decide_eq_true ok.2) (hts _ (cls_lk ok.1)) (by omega) (by omega) hd (fun H1 k1 k2 k3 => W.cs (show znx σ - nx0 + 1 = znx σ + 1 - nx0 by omega) (show zsl σ - sl0 + (cRow x).2.2 = zsl σ + (cRow x).2.2 - sl0 by omega) (kk H1 locs ls k1 k2 k3 hl))
  | newarray aty =>
    replace h1 : zNa x pc L S σ = some q := h1
    unfold zNa at h1
    split at h1
    · rename_i n r
      split at h1
      · rename_i ht
        cases h1
        have ok := of_decide_eq_true (show decide (newarray.typeOf aty = siteTy x) = true from ok)
        have hcR : znx σ + 1 - nx0 ≤ R.cells := hcR
        have hsR : zsl σ + n.toNatClampNeg - sl0 ≤ R.slots := hsR
        exact s_newI hx hb hts ok hK hG hS hlo0 hsz ht.1 ht.2 (by omega) (by omega) hd (fun H1 k1 k2 k3 => W.cs (show znx σ - nx0 + 1 = znx σ + 1 - nx0 by omega) (show zsl σ - sl0 + n.toNatClampNeg = zsl σ + n.toNatClampNeg - sl0 by omega) (kk H1 locs ls k1 k2 k3 hl))
      · cases h1
    · cases h1
  | anewarray k =>
    replace h1 : zAna x pc L S σ = some q := h1
    unfold zAna at h1
    split at h1
    · rename_i n r
      split at h1
      · rename_i ht
        cases h1
        have ok : (decide (Cond.classLink (cNm (mC M)) k "BuildCache$Content" ∈ zAN ∧ (x = 6 ∨ x = 7)) || decide (Cond.classLink (cNm (mC M)) k "BuildCache$Key" ∈ zAN ∧ x = 8) || decide (Cond.classLink (cNm (mC M)) k "java/lang/Object" ∈ zAN ∧ x = 11)) = true := ok
        have hcR : znx σ + 1 - nx0 ≤ R.cells := hcR
        have hsR : zsl σ + n.toNatClampNeg - sl0 ≤ R.slots := hsR
        have hex : ∃ C, Cond.classLink (cNm (mC M)) k C ∈ bigW ∧ va_AO C s ∧ siteTy x = .object C := by
          simp only [Bool.or_eq_true, decide_eq_true_eq] at ok
          rcases ok with (⟨g1, rfl | rfl⟩ | ⟨g1, rfl⟩) | ⟨g1, rfl⟩
          · exact ⟨_, an_ok _ g1, hgS.2.2.2.2.2.1.1, rfl⟩
          · exact ⟨_, an_ok _ g1, hgS.2.2.2.2.2.1.1, rfl⟩
          · exact ⟨_, an_ok _ g1, hgS.2.2.2.2.2.1.2.1, rfl⟩
          · exact ⟨_, an_ok _ g1, hgS.2.2.2.2.2.1.2.2, rfl⟩
        obtain ⟨C, g1, g2, g3⟩ := hex
        exact s_newR hx hb hown (hts _ g1) g2 g3 hK hG hS hlo0 hsz ht.1 ht.2 (by omega) (by omega) hd (fun H1 k1 k2 k3 => W.cs (show znx σ - nx0 + 1 = znx σ + 1 - nx0 by omega) (show zsl σ - sl0 + n.toNatClampNeg = zsl σ + n.toNatClampNeg - sl0 by omega) (kk H1 locs ls k1 k2 k3 hl))
      · cases h1
    · cases h1
  | multianewarray idx dims =>
    replace h1 : zMna pc L S σ = some q := h1
    unfold zMna at h1
    split at h1
    · rename_i k n r
      split at h1
      · rename_i ht
        cases h1
        have ok9 : (mC M == 6 && idx == 11) = true := ok
        simp only [Bool.and_eq_true, beq_iff_eq] at ok9
        have hdims := zDims_at hc
        have hdims : dims = 2 := by simpa [zDims] using hdims
        subst hdims
        have hown2 := hown
        rw [ok9.1] at hown2
        have h2 := hts _ w_mna
        rw [← ok9.2] at h2
        have hcR : znx σ + 1 + n.toNatClampNeg - nx0 ≤ R.cells := hcR
        have hsR : zsl σ + n.toNatClampNeg + n.toNatClampNeg * k.toNatClampNeg - sl0 ≤ R.slots := hsR
        exact s_newM hx hb hts hown2 h2 hgS.2.2.2.2.2.2 hK hG hS hlo0 hsz ht.1 ht.2.1 ht.2.2.1 ht.2.2.2.1 ht.2.2.2.2 (by omega) (by omega) hd (fun H1 k1 k2 k3 => W.cs (show znx σ - nx0 + 1 + n.toNatClampNeg = znx σ + 1 + n.toNatClampNeg - nx0 by omega) (show zsl σ - sl0 + n.toNatClampNeg + n.toNatClampNeg * k.toNatClampNeg = zsl σ + n.toNatClampNeg + n.toNatClampNeg * k.toNatClampNeg - sl0 by omega) (kk H1 locs ls k1 k2 k3 hl))
      · cases h1
    · cases h1
  | checkcast n =>
    replace h1 : zCk x pc L S σ = some q := h1
    unfold zCk at h1
    split at h1
    · split at h1
      · rename_i ht
        cases h1
        have ok := (Bool.and_eq_true_iff.mp (show (zPC.any (fun q => q.1 == mC M && q.2.1 == n && q.2.2 == x) && decide (x < 14)) = true from ok))
        exact s_chk hx hb hown (hts _ (cls_lk ok.1)) hK hG ht hd (kk H locs ls hsz hG hS hl)
      · cases h1
    · cases h1
  | getstatic n =>
    cases h1
    have ok : (mC M == 13 && n == 39) = true := ok
    simp only [Bool.and_eq_true, beq_iff_eq] at ok
    have hown2 := hown
    rw [ok.1] at hown2
    have h2 := hts _ w_stat
    rw [← ok.2] at h2
    exact va_gets hx hb hgS.1 hS hown2 h2 (fun w hw => hw) hd (kk H locs ls hsz hG hS hl)
  | invokestatic n =>
    replace h1 : (if y = 6 then zCpy pc L S σ else if y = 8 then zMm true pc L S σ else if y = 9 then zMm false pc L S σ else none) = some q := h1
    have ok := (Bool.and_eq_true_iff.mp (show (zPI.any (fun q => q.1 == mC M && q.2.1 == n && q.2.2.1 == x && q.2.2.2.1 == y && (q.2.2.2.2 : Int) == z) && (if y = 6 ∨ y = 8 ∨ y = 9 then decide (1 ≤ mDep M ∧ 40 ≤ mLoc M) else (y == 1 || y == 4) && zRm (mE M) x)) = true from ok))
    obtain ⟨nn, -, hpi, -⟩ := inv_ok ok.1
    by_cases hy6 : y = 6
    · subst hy6
      rw [if_pos rfl] at h1
      have ok2 := ok.2
      rw [if_pos (Or.inl rfl)] at ok2
      have ok2 := of_decide_eq_true ok2
      have hlk : Cond.methodLink (cNm (mC M)) n arraycopyName ∈ bigW := hpi.1
      unfold zCpy at h1
      split at h1
      · split at h1
        · rename_i ht
          cases h1
          obtain ⟨t1, ⟨t2, t3, t4⟩, t5, t6, t7, t8⟩ := ht
          exact s_cpy hx hb hml' hts hown (hts _ hlk) hK hgS.2.2.2.2.1 hG hS t1 t2 t3 t4 t5 t6 t7 (by omega) (by omega) t8 hd (fun H1 locs1 k1 k2 k3 => kk H1 locs1 ls (k1.trans hsz) k2 k3 hl)
        · cases h1
      · cases h1
    · rw [if_neg hy6] at h1
      by_cases hy8 : y = 8
      · subst hy8
        rw [if_pos rfl] at h1
        have ok2 := ok.2
        rw [if_pos (Or.inr (Or.inl rfl))] at ok2
        have ok2 := of_decide_eq_true ok2
        have hlk : Cond.methodLink (cNm (mC M)) n Lib.Math.max.name ∈ bigW := hpi.1
        unfold zMm at h1
        split at h1
        · split at h1
          · rename_i hw
            cases h1
            exact va_mmax hx hb hml' hown (hts _ hlk) (hts _ w_maxS) (hts _ w_mathI) (hts _ w_maxC) (by omega) (by unfold zW at hw; omega) hcR hsR hd (kk H locs ls hsz hG hS hl)
          · cases h1
        · cases h1
      · rw [if_neg hy8] at h1
        by_cases hy9 : y = 9
        · subst hy9
          rw [if_pos rfl] at h1
          have ok2 := ok.2
          rw [if_pos (Or.inr (Or.inr rfl))] at ok2
          have ok2 := of_decide_eq_true ok2
          have hlk : Cond.methodLink (cNm (mC M)) n Lib.Math.min.name ∈ bigW := hpi.1
          unfold zMm at h1
          split at h1
          · split at h1
            · rename_i hw
              cases h1
              exact va_mmin hx hb hml' hown (hts _ hlk) (hts _ w_minS) (hts _ w_mathI) (hts _ w_minC) (by omega) (by unfold zW at hw; omega) hcR hsR hd (kk H locs ls hsz hG hS hl)
            · cases h1
          · cases h1
        · rw [if_neg hy9] at h1; cases h1
  | invokevirtual n =>
    replace h1 : (if y = 7 then zGc pc L S σ else none) = some q := h1
    have ok := (Bool.and_eq_true_iff.mp (show (zPI.any (fun q => q.1 == mC M && q.2.1 == n && q.2.2.1 == x && q.2.2.2.1 == y && (q.2.2.2.2 : Int) == z) && (if y = 7 then decide (1 ≤ mDep M ∧ 40 ≤ mLoc M) else y == 0 && zRm (mE M) x)) = true from ok))
    obtain ⟨nn, -, hpi, -⟩ := inv_ok ok.1
    by_cases hy : y = 7
    · subst hy
      rw [if_pos rfl] at h1
      have ok2 := ok.2
      rw [if_pos rfl] at ok2
      have ok2 := of_decide_eq_true ok2
      have hlk : Cond.methodLink (cNm (mC M)) n gcY ∈ bigW := hpi.1
      unfold zGc at h1
      split at h1
      · split at h1
        · rename_i ht
          cases h1
          exact s_gcl hx hb hml' hts hown (hts _ hlk) hK hG hgS.2.1 hgS.2.2.1 ⟨ht.1, ht.2.1⟩ (by omega) (by omega) ht.2.2 hd (kk H locs ls hsz hG hS hl)
        · cases h1
      · cases h1
    · rw [if_neg hy] at h1; cases h1
  | invokespecial n =>
    replace h1 : (if y = 5 then zOi pc L S σ else none) = some q := h1
    have ok := (Bool.and_eq_true_iff.mp (show (zPI.any (fun q => q.1 == mC M && q.2.1 == n && q.2.2.1 == x && q.2.2.2.1 == y && (q.2.2.2.2 : Int) == z) && (if y = 5 then decide (1 ≤ mDep M ∧ 40 ≤ mLoc M) else (y == 2 || y == 3) && zRm (mE M) x)) = true from ok))
    obtain ⟨nn, -, hpi, -⟩ := inv_ok ok.1
    by_cases hy : y = 5
    · subst hy
      rw [if_pos rfl] at h1
      have ok2 := ok.2
      rw [if_pos rfl] at ok2
      have ok2 := of_decide_eq_true ok2
      have hlk : Cond.methodLink (cNm (mC M)) n objectInit ∈ bigW := hpi.1
      unfold zOi at h1
      split at h1
      · rename_i a r
        split at h1
        · rename_i hw
          cases h1
          refine W.objInit hx hb hown (hts _ hlk) (hts _ w_oiI) (hts _ w_oiC) (g := F0 m pc ls (.ref a :: r)) rfl (by rw [hml]; exact hl.1) rfl hd (by omega) (by show 2 * 0 + _ + 12 ≤ _; unfold zW at hw; omega) ?_
          exact W.eq (g2 := F0 m (pc + 3) ls r) rfl (kk H locs ls hsz hG hS hl)
        · cases h1
      · cases h1
    · rw [if_neg hy] at h1; cases h1
  | _ => cases h1
end ZO
end
section
/-! A WHOLE RUN: a method by its contract, from a run of the machine over fields -/
def zMono (σ σ' : zSt) : Prop := znx σ ≤ znx σ' ∧ zsl σ ≤ zsl σ' ∧ ze0 σ' = ze0 σ ∧ zmi σ' = zmi σ
theorem zMono.rf (σ : zSt) : zMono σ σ := ⟨Nat.le_refl _, Nat.le_refl _, rfl, rfl⟩
theorem zMono.tr {a b c : zSt} (h1 : zMono a b) (h2 : zMono b c) : zMono a c := ⟨Nat.le_trans h1.1 h2.1, Nat.le_trans h1.2.1 h2.2.1, h2.2.2.1.trans h1.2.2.1, h2.2.2.2.trans h1.2.2.2⟩
theorem zGo_st {b : Bool} {pc : Nat} {off : Int} {L : List (Option Value)} {r : List Value} {σ : zSt} {q : zC} (h : zGo b pc off L r σ = some q) : q.2.2.2 = σ := by
  rcases zGo_spec h with ⟨-, t, -, rfl⟩ | ⟨-, rfl⟩ <;> rfl
theorem z1_mono {i : Instr} {x y nL pc : Nat} {z : Int} {L : List (Option Value)} {S : List Value} {σ : zSt} {q : zC} (h1 : z1 i x y z nL pc L S σ = some q) : zMono σ q.2.2.2 := by
  have hq : ∀ {q' : zC}, q'.2.2.2 = σ → zMono σ q'.2.2.2 := fun h => by rw [h]; exact zMono.rf σ
  have mk : ∀ {q' : zC}, znx σ ≤ znx q'.2.2.2 → zsl σ ≤ zsl q'.2.2.2 → ze0 q'.2.2.2 = ze0 σ → zmi q'.2.2.2 = zmi σ → zMono σ q'.2.2.2 := fun a b c d => ⟨a, b, c, d⟩
  cases i with
  | ldc n =>
    replace h1 : (if x = 0 then some (pc + 2, L, Value.int (Int32.ofInt z) :: S, σ) else some (pc + 2, L, Value.ref (zmi σ) :: S, σ)) = some q := h1
    split at h1 <;> cases h1 <;> exact zMono.rf σ
  | iload k => obtain ⟨v, -, -, rfl⟩ := zLd_spec h1; exact zMono.rf σ
  | iload_n k => obtain ⟨v, -, -, rfl⟩ := zLd_spec h1; exact zMono.rf σ
  | lload k => obtain ⟨v, -, -, rfl⟩ := zLd_spec h1; exact zMono.rf σ
  | lload_n k => obtain ⟨v, -, -, rfl⟩ := zLd_spec h1; exact zMono.rf σ
  | aload k => obtain ⟨v, -, -, rfl⟩ := zLd_spec h1; exact zMono.rf σ
  | aload_n k => obtain ⟨v, -, -, rfl⟩ := zLd_spec h1; exact zMono.rf σ
  | istore k => obtain ⟨v, r, rfl, -, -, -, rfl⟩ := zSto_spec h1; exact zMono.rf σ
  | istore_n k => obtain ⟨v, r, rfl, -, -, -, rfl⟩ := zSto_spec h1; exact zMono.rf σ
  | astore k => obtain ⟨v, r, rfl, -, -, -, rfl⟩ := zSto_spec h1; exact zMono.rf σ
  | astore_n k => obtain ⟨v, r, rfl, -, -, -, rfl⟩ := zSto_spec h1; exact zMono.rf σ
  | lstore k => obtain ⟨v, r, rfl, -, -, rfl⟩ := zStoL_spec h1; exact zMono.rf σ
  | lstore_n k => obtain ⟨v, r, rfl, -, -, rfl⟩ := zStoL_spec h1; exact zMono.rf σ
  | iinc k n => obtain ⟨v, -, -, -, rfl⟩ := zInc_spec h1; exact zMono.rf σ
  | iadd => obtain ⟨v, w, u, r, rfl, h2, rfl⟩ := zBI_spec (show zBI (fun a b => some (a + b)) pc L S σ = some q from h1); exact zMono.rf σ
  | isub => obtain ⟨v, w, u, r, rfl, h2, rfl⟩ := zBI_spec (show zBI (fun a b => some (a - b)) pc L S σ = some q from h1); exact zMono.rf σ
  | imul => obtain ⟨v, w, u, r, rfl, h2, rfl⟩ := zBI_spec (show zBI (fun a b => some (a * b)) pc L S σ = some q from h1); exact zMono.rf σ
  | iand => obtain ⟨v, w, u, r, rfl, h2, rfl⟩ := zBI_spec (show zBI (fun a b => some (a &&& b)) pc L S σ = some q from h1); exact zMono.rf σ
  | ixor => obtain ⟨v, w, u, r, rfl, h2, rfl⟩ := zBI_spec (show zBI (fun a b => some (a ^^^ b)) pc L S σ = some q from h1); exact zMono.rf σ
  | ishr => obtain ⟨v, w, u, r, rfl, h2, rfl⟩ := zBI_spec (show zBI (fun a b => some (a >>> (b &&& 31))) pc L S σ = some q from h1); exact zMono.rf σ
  | idiv => obtain ⟨v, w, u, r, rfl, h2, rfl⟩ := zBI_spec h1; exact zMono.rf σ
  | irem => obtain ⟨v, w, u, r, rfl, h2, rfl⟩ := zBI_spec h1; exact zMono.rf σ
  | ladd => obtain ⟨v, w, r, rfl, rfl⟩ := zBL_spec h1; exact zMono.rf σ
  | lsub => obtain ⟨v, w, r, rfl, rfl⟩ := zBL_spec h1; exact zMono.rf σ
  | lmul => obtain ⟨v, w, r, rfl, rfl⟩ := zBL_spec h1; exact zMono.rf σ
  | land => obtain ⟨v, w, r, rfl, rfl⟩ := zBL_spec h1; exact zMono.rf σ
  | lor => obtain ⟨v, w, r, rfl, rfl⟩ := zBL_spec h1; exact zMono.rf σ
  | lxor => obtain ⟨v, w, r, rfl, rfl⟩ := zBL_spec h1; exact zMono.rf σ
  | lcmp => obtain ⟨v, w, r, rfl, rfl⟩ := zBL_spec h1; exact zMono.rf σ
  | lshl => obtain ⟨v, w, r, rfl, rfl⟩ := zSL_spec h1; exact zMono.rf σ
  | lshr => obtain ⟨v, w, r, rfl, rfl⟩ := zSL_spec h1; exact zMono.rf σ
  | lushr => obtain ⟨v, w, r, rfl, rfl⟩ := zSL_spec h1; exact zMono.rf σ
  | i2l =>
    unfold z1 at h1
    dsimp only at h1
    split at h1 <;> cases h1
    exact zMono.rf σ
  | l2i =>
    unfold z1 at h1
    dsimp only at h1
    split at h1 <;> cases h1
    exact zMono.rf σ
  | ifCond cnd off => cases cnd <;> (obtain ⟨v, r, rfl, h2⟩ := zIf_spec h1; exact hq (zGo_st h2))
  | if_icmp cnd off => cases cnd <;> (obtain ⟨v, w, r, rfl, h2⟩ := zIc_spec h1; exact hq (zGo_st h2))
  | if_acmp cnd off => cases cnd <;> (obtain ⟨v, w, r, rfl, h2⟩ := zAc_spec h1; exact hq (zGo_st h2))
  | goto off =>
    unfold z1 at h1
    dsimp only at h1
    split at h1 <;> cases h1
    exact zMono.rf σ
  | tableswitch d lo9 hi offs =>
    replace h1 : zSw d lo9 hi offs pc L S σ = some q := h1
    unfold zSw at h1
    split at h1
    · split at h1
      · split at h1 <;> cases h1
        exact zMono.rf σ
      · split at h1
        · split at h1 <;> cases h1
          exact zMono.rf σ
        · cases h1
    · cases h1
  | dup =>
    replace h1 : zDup pc L S σ = some q := h1
    unfold zDup at h1
    split at h1 <;> first | (split at h1 <;> cases h1; exact zMono.rf σ) | cases h1
  | pop =>
    replace h1 : zPop pc L S σ = some q := h1
    unfold zPop at h1
    split at h1 <;> first | (split at h1 <;> cases h1; exact zMono.rf σ) | cases h1
  | dup_x1 =>
    replace h1 : zDupx pc L S σ = some q := h1
    unfold zDupx at h1
    split at h1 <;> first | (split at h1 <;> cases h1; exact zMono.rf σ) | cases h1
  | dup2 =>
    replace h1 : zDup2 pc L S σ = some q := h1
    unfold zDup2 at h1
    split at h1 <;> first | (split at h1 <;> cases h1; exact zMono.rf σ) | cases h1
  | getfield n =>
    replace h1 : zGet x y pc L S σ = some q := h1
    unfold zGet at h1
    split at h1
    · split at h1
      · split at h1 <;> cases h1
        exact zMono.rf σ
      · cases h1
    · cases h1
  | putfield n =>
    replace h1 : zPutf x y pc L S σ = some q := h1
    unfold zPutf at h1
    split at h1
    · split at h1
      · split at h1
        · rename_i σ1 hp
          cases h1
          unfold zPv at hp
          split at hp <;> first | (split at hp <;> cases hp; exact ⟨Nat.le_refl _, Nat.le_refl _, rfl, rfl⟩) | cases hp
        · cases h1
      · cases h1
    · cases h1
  | iaload =>
    replace h1 : zIld .int pc L S σ = some q := h1
    unfold zIld at h1
    split at h1 <;> first | (split at h1 <;> cases h1; exact zMono.rf σ) | cases h1
  | baload =>
    replace h1 : zIld .boolean pc L S σ = some q := h1
    unfold zIld at h1
    split at h1 <;> first | (split at h1 <;> cases h1; exact zMono.rf σ) | cases h1
  | iastore =>
    replace h1 : zIst .int pc L S σ = some q := h1
    unfold zIst at h1
    split at h1 <;> first | (split at h1 <;> cases h1; exact ⟨Nat.le_refl _, Nat.le_refl _, rfl, rfl⟩) | cases h1
  | bastore =>
    replace h1 : zIst .boolean pc L S σ = some q := h1
    unfold zIst at h1
    split at h1 <;> first | (split at h1 <;> cases h1; exact ⟨Nat.le_refl _, Nat.le_refl _, rfl, rfl⟩) | cases h1
  | aaload =>
    replace h1 : zAld pc L S σ = some q := h1
    unfold zAld at h1
    split at h1
    · split at h1
      · split at h1 <;> cases h1
        exact zMono.rf σ
      · cases h1
    · cases h1
  | aastore =>
    replace h1 : zAst pc L S σ = some q := h1
    unfold zAst at h1
    split at h1 <;> first | (split at h1 <;> cases h1; exact ⟨Nat.le_refl _, Nat.le_refl _, rfl, rfl⟩) | cases h1
  | arraylength =>
    replace h1 : zLn pc L S σ = some q := h1
    unfold zLn at h1
    split at h1
    · split at h1
      · cases h1; exact zMono.rf σ
      · split at h1 <;> cases h1
        exact zMono.rf σ
    · cases h1
  | new n => cases h1; exact ⟨Nat.le_succ _, Nat.le_add_right _ _, rfl, rfl⟩
  | newarray aty =>
    replace h1 : zNa x pc L S σ = some q := h1
    unfold zNa at h1
    split at h1 <;> first | (split at h1 <;> cases h1; exact ⟨Nat.le_succ _, Nat.le_add_right _ _, rfl, rfl⟩) | cases h1
  | anewarray k =>
    replace h1 : zAna x pc L S σ = some q := h1
    unfold zAna at h1
    split at h1 <;> first | (split at h1 <;> cases h1; exact ⟨Nat.le_succ _, Nat.le_add_right _ _, rfl, rfl⟩) | cases h1
  | multianewarray idx dims =>
    replace h1 : zMna pc L S σ = some q := h1
    unfold zMna at h1
    split at h1
    · rename_i k n r
      split at h1
      · cases h1
        exact ⟨show znx σ ≤ znx σ + 1 + n.toNatClampNeg by omega, show zsl σ ≤ zsl σ + n.toNatClampNeg + n.toNatClampNeg * k.toNatClampNeg by omega, rfl, rfl⟩
      · cases h1
    · cases h1
  | checkcast n =>
    replace h1 : zCk x pc L S σ = some q := h1
    unfold zCk at h1
    split at h1 <;> first | (split at h1 <;> cases h1; exact zMono.rf σ) | cases h1
  | invokestatic n =>
    replace h1 : (if y = 6 then zCpy pc L S σ else if y = 8 then zMm true pc L S σ else if y = 9 then zMm false pc L S σ else none) = some q := h1
    split at h1
    · unfold zCpy at h1
      split at h1 <;> first | (split at h1 <;> cases h1; exact ⟨Nat.le_refl _, Nat.le_refl _, rfl, rfl⟩) | cases h1
    · split at h1
      · unfold zMm at h1
        split at h1 <;> first | (split at h1 <;> cases h1; exact zMono.rf σ) | cases h1
      · split at h1
        · unfold zMm at h1
          split at h1 <;> first | (split at h1 <;> cases h1; exact zMono.rf σ) | cases h1
        · cases h1
  | invokevirtual n =>
    replace h1 : (if y = 7 then zGc pc L S σ else none) = some q := h1
    split at h1
    · unfold zGc at h1
      split at h1 <;> first | (split at h1 <;> cases h1; exact zMono.rf σ) | cases h1
    · cases h1
  | invokespecial n =>
    replace h1 : (if y = 5 then zOi pc L S σ else none) = some q := h1
    split at h1
    · unfold zOi at h1
      split at h1 <;> first | (split at h1 <;> cases h1; exact zMono.rf σ) | cases h1
    · cases h1
  | _ => first | (cases h1; exact zMono.rf σ) | cases h1
theorem zRet_spec {i : Instr} {ret : Option FieldType} {S : List Value} {σ : zSt} {u : Option Value × zSt} (h : zRet i ret S σ = some u) : u.2 = σ ∧ S = u.1.toList := by
  unfold zRet at h
  split at h
  · split at h <;> cases h
    exact ⟨rfl, rfl⟩
  · split at h <;> cases h
    exact ⟨rfl, rfl⟩
  · split at h <;> cases h <;> exact ⟨rfl, rfl⟩
  · split at h <;> cases h
    exact ⟨rfl, rfl⟩
  · cases h
theorem zRun_mono : ∀ (n m pc : Nat) (L : List (Option Value)) (S : List Value) (σ : zSt) (u : Option Value × zSt), zRun n m pc L S σ = some u → zMono σ u.2
  | 0, _, _, _, _, _, _, h => by cases h
  | n + 1, m, pc, L, S, σ, u, h => by
    unfold zRun at h
    split at h
    · cases h
    · split at h
      · split at h
        · cases h
        · rename_i q hq
          exact (z1_mono hq).tr (zRun_mono n _ _ _ _ _ _ h)
      · split at h
        · cases h
        · split at h
          · split at h
            · cases h
            · rename_i q hq hw u1 hu1
              exact (zRun_mono n _ _ _ _ _ _ hu1).tr (zRun_mono n _ _ _ _ _ _ h)
          · cases h
      · rw [(zRet_spec h).1]; exact zMono.rf σ
def gB (G : zG) (lo : Nat) (σ : zSt) (U : State) : Prop := U.heap.size = znx σ ∧ lo ≤ U.heap.size ∧ gRep G lo U σ U.heap ∧ gK G U ∧ gS lo (ze0 σ) (zmi σ) U
def gQ (G : zG) (lo : Nat) (r : Option Value) (σ' : zSt) : Array Value → State → Outcome → State → Prop := fun _ st oc t => oc = .returned r ∧ t.heap.size = znx σ' ∧ gRep G lo t σ' t.heap ∧ va_F (fun q => lo ≤ q) st t
def wsM (M : Nat) : List Cond := .code (mY M) (mB M) (mL M) (mR M) :: bigW
section ZR
variable {p : Program} {l : Launch} {e : Env} {R : Room} {s : State} {m : MethodId} {args : Array Value} {below : List Frame} {meth : Method} {c : Code} {H : Heap} {locs : List Loc} {cells slots : Nat} {Q : State → Prop}
variable {ls : Array Slot} {G : zG} {lo M pc : Nat} {σ σ' : zSt} {r : Option Value} {rest st0 : List Value} {a : Array Value}
theorem g_call {mc ms : Nat} (hr : va_Run p l e R s m args below meth c H locs cells slots mc ms (F0 m pc ls st0) rest (gQ G lo r σ' a) (fun q => lo ≤ q)) (hS : va_S (fun q => lo ≤ q) s.heap H locs)
    (kk : ∀ (H1 : Heap) (locs1 : List Loc), H1.size = znx σ' → gRep G lo s σ' H1 → va_S (fun q => lo ≤ q) s.heap H1 locs1 → W p l e R s m args below meth c H1 locs1 (cells + mc) (slots + ms) Q (F0 m (pc + 3) ls (r.toList ++ rest))) : W p l e R s m args below meth c H locs cells slots Q (F0 m pc ls st0) := by
  intro T hT X
  obtain ⟨v, st₀, t, T', L, h0, X', hL, e1, e2, ⟨hv, hsz, hG, hz, hk⟩, st⟩ := hr T hT X
  cases hv
  rw [h0] at hz hk
  have hal : t.vm.Alike s.vm := by rw [← e2]; exact X'.warmed.alike.symm
  obtain ⟨t2, a1, b1⟩ := kk T'.heap (locs ++ L) (by rw [e1]; exact hsz) (by rw [e1]; exact hG.moved hal)
    ⟨Nat.le_trans hS.1 (by rw [e1]; exact hz), fun q h1 h2 => by rw [e1, hk q (Nat.lt_of_lt_of_le h1 hS.1) h2]; exact hS.2.1 q h1 h2, fun q hq => by
      rcases List.mem_append.mp hq with h | h
      · exact hS.2.2 q h
      · exact hL q h⟩ T' rfl X'
  exact ⟨t2, st t2 a1, b1⟩
theorem gB.calling {U : State} {g : JFrame} {mk : MethodId} {a : Array Value} (h : gB G lo σ U) : gB G lo σ (U.calling g mk a) :=
  ⟨h.1, h.2.1, h.2.2.1.moved (u := U) (U := U.calling g mk a) (Vm.Alike.refl U.vm), h.2.2.2.1.moved (u := U) (U := U.calling g mk a) (Vm.Alike.refl U.vm), h.2.2.2.2.to (s := U) (U := U.calling g mk a) (locs := []) rfl va_S.rf (State.WarmedH.refl U)⟩
theorem gB.blind {av : List Value} : FrameBlind (va_Pc av (gB G lo σ)) := fun _ _ _ _ h => ⟨h.1, h.2.calling⟩
theorem gB.pre {U : State} (hK : gK G s) (hgS : gS lo (ze0 σ) (zmi σ) s) (hlo : lo ≤ s.heap.size) (hsz : H.size = znx σ) (hG : gRep G lo s σ H) (hS : va_S (fun q => lo ≤ q) s.heap H locs) (hU : U.heap = H) (hW : s.WarmedH U.vm) : gB G lo σ U :=
  ⟨by rw [hU]; exact hsz, by rw [hU]; exact Nat.le_trans hlo hS.1, by rw [hU]; exact hG.moved hW.alike, hK.moved hW.alike, hgS.to hU hS hW⟩
end ZR
theorem wsM_in {x : Nat} (h : x < 204) : ∀ w ∈ wsM x, w ∈ bigW := fun w hw => by
  rcases List.mem_cons.mp hw with rfl | hw
  · exact (mW h).1
  · exact hw
theorem zCa_spec {x y n : Nat} {S : List Value} {σ : zSt} {u : List Value × List Value} (h : zCa x y n S σ = some u) : ((y = 1 ∨ y = 4) ∧ S = u.1.reverse ++ u.2 ∧ u.1.length = n) ∨ (¬ (y = 1 ∨ y = 4) ∧ ∃ b As, u.1 = .ref b :: As ∧ S = As.reverse ++ .ref b :: u.2 ∧ As.length = n ∧ (y = 0 → (ztg σ b).1 = 1 ∧ (ztg σ b).2.1 = mC x)) := by
  unfold zCa at h
  split at h
  · rename_i hn
    split at h
    · rename_i hy
      cases h
      refine Or.inl ⟨hy, ?_, ?_⟩
      · show S = (S.take n).reverse.reverse ++ S.drop n
        rw [List.reverse_reverse, List.take_append_drop]
      · show (S.take n).reverse.length = n
        rw [List.length_reverse, List.length_take]
        omega
    · rename_i hy
      split at h
      · rename_i b r hd
        split at h
        · rename_i ht
          cases h
          refine Or.inr ⟨hy, b, (S.take n).reverse, rfl, ?_, ?_, ht⟩
          · rw [List.reverse_reverse]
            show S = S.take n ++ Value.ref b :: r
            rw [← hd, List.take_append_drop]
          · rw [List.length_reverse, List.length_take]
            omega
        · cases h
      · cases h
  · cases h
end
section
/-! THE RUN OF THE MACHINE OVER FIELDS IS THE JVM's -/
section ZZ
variable {p : Program} {l : Launch} {e : Env} {G : zG} {lo : Nat}
/-- what a method's run gives, for every frame in which it stands -/
def zGood (l : Launch) (G : zG) (lo n : Nat) : Prop := ∀ (M pc : Nat) (L : List (Option Value)) (S : List Value) (σ : zSt) (u : Option Value × zSt), zRun n M pc L S σ = some u →
  ∀ (p : Program) (e : Env) (R : Room) (s : State) (m : MethodId) (args : Array Value) (below : List Frame) (meth : Method) (c : Code) (H : Heap) (locs : List Loc) (Q : State → Prop) (ls : Array Slot) (nx0 sl0 : Nat),
  zCtx p s m args meth c G lo M (ze0 σ) (zmi σ) → H.size = znx σ → gRep G lo s σ H → va_S (fun q => lo ≤ q) s.heap H locs → zLH ls (mL M) L → mDep M ≤ R.frames → mLoc M ≤ R.locals → nx0 ≤ znx σ → sl0 ≤ zsl σ → znx u.2 - nx0 ≤ R.cells → zsl u.2 - sl0 ≤ R.slots →
  (∀ (H1 : Heap) (locs1 : List Loc) (pc1 : Nat) (ls1 : Array Slot) (i : Instr), H1.size = znx u.2 → gRep G lo s u.2 H1 → va_S (fun q => lo ≤ q) s.heap H1 locs1 → decode (mB M) pc1 = .ok (i, 1) → zRet i (mR M) u.1.toList u.2 = some u → W p l e R s m args below meth c H1 locs1 (znx u.2 - nx0) (zsl u.2 - sl0) Q (F0 m pc1 ls1 u.1.toList)) →
  W p l e R s m args below meth c H locs (znx σ - nx0) (zsl σ - sl0) Q (F0 m pc ls S)
theorem zRet_len {i : Instr} {ret : Option FieldType} {S : List Value} {σ : zSt} {u : Option Value × zSt} (h : zRet i ret S σ = some u) (pc : Nat) : zLen pc i = 1 := by
  unfold zRet at h
  split at h <;> first | rfl | cases h
/-- a method's own end -/
theorem z_end {R : Room} {s : State} {m : MethodId} {args : Array Value} {below : List Frame} {meth : Method} {c : Code} {H : Heap} {locs : List Loc} {ls : Array Slot} {M pc cells slots : Nat} {i : Instr} {u : Option Value × zSt}
    (hx : p.tables.exec = Jvm.exec) (hb : c.code = mB M) (hr : meth.sig.returnType = mR M) (hlocks : meth.locks = false) (hsz : H.size = znx u.2) (hG : gRep G lo s u.2 H) (hS : va_S (fun q => lo ≤ q) s.heap H locs) (hd : decode (mB M) pc = .ok (i, 1)) (h : zRet i (mR M) u.1.toList u.2 = some u) :
    W p l e R s m args below meth c H locs cells slots (MQ below (gQ G lo u.1 u.2) args s cells slots (fun q => lo ≤ q)) (F0 m pc ls u.1.toList) := by
  have hq : ∀ t : State, t.heap = H → s.WarmedH t.vm → gQ G lo u.1 u.2 args s (.returned u.1) t := fun t ht hW => ⟨rfl, by rw [ht]; exact hsz, by rw [ht]; exact hG.moved hW.alike, hS.F ht⟩
  obtain ⟨r, σ'⟩ := u
  unfold zRet at h
  split at h
  · rename_i v hv
    have hv : r = some (.int v) := by cases r with
      | none => cases hv
      | some w => simpa using hv
    subst hv
    split at h
    · rename_i ht
      rcases ht with ht | ⟨ht, hz⟩
      · exact W.iret hx hb (by rw [hr, ht]) hq hS.2.2 hd
      · exact W.zret (ty := .boolean) hx hb (by rw [hr, ht]) (by rcases hz with rfl | rfl <;> rfl) hq hS.2.2 hd
    · cases h
  · rename_i v hv
    have hv : r = some (.long v) := by cases r with
      | none => cases hv
      | some w => simpa using hv
    subst hv
    split at h
    · rename_i ht
      exact W.lret hx hb (by rw [hr, ht]) hq hS.2.2 hd
    · cases h
  · rename_i v hv
    have hv : r = some (.ref v) := by cases r with
      | none => cases hv
      | some w => simpa using hv
    subst hv
    split at h
    · rename_i C ht
      exact W.aret hx hb (by rw [hr, ht]) (Or.inl ⟨_, rfl⟩) (Or.inr ⟨_, rfl⟩) hq hS.2.2 hd
    · rename_i C ht
      exact W.aret hx hb (by rw [hr, ht]) (Or.inr ⟨_, rfl⟩) (Or.inr ⟨_, rfl⟩) hq hS.2.2 hd
    · cases h
  · rename_i hv
    have hv : r = none := by cases r with
      | none => rfl
      | some w => cases hv
    subst hv
    split at h
    · rename_i ht
      exact W.vret hx hb (by rw [hr, ht]) hq hS.2.2 hd
    · cases h
  · cases h
theorem z_met {n M : Nat} (ih : zGood l G lo n) (hM : M < 204) {av : List Value} (hlen : (zArgs av).length ≤ mL M) {σ : zSt} {u : Option Value × zSt} (h : zRun n M 0 (zL0 M av) [] σ = some u) :
    Met l (mY M) (wsM M) { frames := mDep M, cells := znx u.2 - znx σ, slots := zsl u.2 - zsl σ, locals := mLoc M } (va_Pc av (gB G lo σ)) (gQ G lo u.1 u.2) (znx u.2 - znx σ) (zsl u.2 - zsl σ) (fun q => lo ≤ q) := by
  obtain ⟨w1, w2, w3, w4⟩ := mW hM
  have hpl := (cn_ok _ w3 w4).2.2
  rw [← w2] at hpl
  refine Met.ofW (cc := mB M) (maxL := mL M) (ret := mR M) hpl rfl ?_
  intro p e s m args below meth c s₁ B hml hv
  obtain ⟨rfl, hsz, hlo, hG, hK, hgS⟩ := hv
  have hx := B.exec
  have hb := B.bytes
  have hr := B.returns
  have hts0 := atoms_spec (ws := wsM M) B.pre
  have hts : ∀ w ∈ bigW, w.before av.toArray s = true := fun w hw => hts0 w (List.mem_cons_of_mem _ hw)
  have hown : s.vm.findClass (cNm (mC M)) = some m.cls := by rw [← w2]; exact findClass_of_methodNamed B.named
  have hlocks := B.notSynchronized
  have hnm : meth.name = (mY M).name := (name_of_methodNamed B.named B.method).1
  rw [lg_entry_eq]
  have hl := zLH_entry hlen
  have hmo := zRun_mono _ _ _ _ _ _ _ h
  have key := ih M 0 _ _ _ _ h p e ({ frames := mDep M, cells := znx u.2 - znx σ, slots := zsl u.2 - zsl σ, locals := mLoc M } : Room) s m av.toArray below meth c s.heap [] (MQ below (gQ G lo u.1 u.2) av.toArray s (znx u.2 - znx σ) (zsl u.2 - zsl σ) (fun q => lo ≤ q)) _ (znx σ) (zsl σ)
    ⟨hx, hb, hml, hown, hts, fun h => hnm.trans h, hK, hgS, hlo⟩ hsz hG va_S.rf hl (Nat.le_refl _) (Nat.le_refl _) (Nat.le_refl _) (Nat.le_refl _) (Nat.le_refl _) (Nat.le_refl _)
    (fun H1 locs1 pc1 ls1 i k1 k2 k3 k4 k5 => z_end hx hb hr hlocks k1 k2 k3 k4 k5)
  rw [Nat.sub_self, Nat.sub_self] at key
  exact key
theorem zRm_spec {M x : Nat} (h : zRm (mE M) x = true) : mDep x + 1 ≤ mDep M ∧ 8 + (mL x + 11) + mLoc x ≤ mLoc M ∧ x < 204 := of_decide_eq_true h
/-- a call's link, by the numbers that stand in the code -/
def piU (o n x y k : Nat) : Prop := (y = 3 ∨ y = 4 → ∀ U, zNest U → va_Nw (.methodLinkNest (cNm o) n (mY x) "BuildCache") U) ∧ (y < 3 → Cond.methodLink (cNm o) n (mY x) ∈ bigW) ∧ x < 204 ∧ (parseMethodDescriptor (mY x).desc).map (fun d => d.parameters.length) = some k ∧ (y = 0 → Cond.selects (mY x).cls (mY x) (mY x) ∈ bigW) ∧ (y = 1 ∨ y = 4 → Cond.static (mY x) ∈ bigW) ∧ (¬ (y = 1 ∨ y = 4) → Cond.instanceMethod (mY x) ∈ bigW) ∧ (y = 2 ∨ y = 3 → (mY x).name = "<init>" ∧ mR x = none)
theorem piU_of {q : Nat × Nat × Nat × Nat × Nat} (hq : q ∈ zPI) (h5 : q.2.2.2.1 < 5) : piU q.1 q.2.1 q.2.2.1 q.2.2.2.1 q.2.2.2.2 := by
  obtain ⟨g1, g2⟩ := pi_ok q hq
  obtain ⟨b3, b4, b5, b6, b7⟩ := g2 h5
  refine ⟨fun h U hN => hN q hq h, fun h => ?_, b3, b4, b5, fun h => ?_, fun h => ?_, b7⟩
  · rw [if_neg (by omega)] at g1
    unfold piY at g1
    rw [if_neg (by omega), if_neg (by omega), if_neg (by omega), if_neg (by omega), if_neg (by omega)] at g1
    exact g1
  · rw [if_pos h] at b6; exact b6
  · rw [if_neg h] at b6; exact b6
theorem inv_ok2 {o n x y : Nat} {z : Int} (h5 : y < 5) (ok : zPI.any (fun q => q.1 == o && q.2.1 == n && q.2.2.1 == x && q.2.2.2.1 == y && (q.2.2.2.2 : Int) == z) = true) : ∃ k : Nat, z.toNat = k ∧ piU o n x y k := by
  obtain ⟨q, hq, h⟩ := any_mem ok
  simp only [Bool.and_eq_true, beq_iff_eq] at h
  obtain ⟨⟨⟨⟨h1, h2⟩, h3⟩, h4⟩, h6⟩ := h
  refine ⟨q.2.2.2.2, by omega, ?_⟩
  rw [← h1, ← h2, ← h3, ← h4]
  exact piU_of hq (by rw [h4]; exact h5)
section GC
variable {p : Program} {l : Launch} {e : Env} {R : Room} {s : State} {m : MethodId} {args : Array Value} {below : List Frame} {meth : Method} {c : Code} {H : Heap} {locs : List Loc} {cells slots : Nat} {Q : State → Prop}
variable {ls : Array Slot} {G : zG} {lo pc nL ix mx mc ms nn b : Nat} {u : Option Value × zSt} {rest As : List Value} {cc bb : ByteArray} {own : String} {yy : MethodName} {rr : Option FieldType} {ws : List Cond} {rm : Room} {Pc : Array Value → State → Prop}
def gcB (s : State) (args : Array Value) (yy : MethodName) (bb : ByteArray) (mx : Nat) (rr : Option FieldType) (ws : List Cond) (nn : Nat) : Prop := (∀ w ∈ ws, ∀ (a' : Array Value) (U : State), s.WarmedH U.vm → w.before a' U = true) ∧ Cond.code yy bb mx rr ∈ ws ∧ (Cond.code yy bb mx rr).before args s = true ∧ (Cond.initialized yy.cls).before args s = true ∧ (yy.cls ≠ "java/lang/invoke/MethodHandle" ∧ yy.cls ≠ "java/lang/invoke/VarHandle") ∧ (∀ sig, parseMethodDescriptor yy.desc = some sig → nn = sig.parameters.length)
def gcR (R rm : Room) (mx mc ms : Nat) : Prop := rm.cells = mc ∧ rm.slots = ms ∧ rm.frames + 1 ≤ R.frames ∧ 8 + (mx + 11) + rm.locals ≤ R.locals
theorem gc_V (hCF : CallFix p m c cc nL s args bigW own) (hM : Met l yy ws rm Pc (gQ G lo u.1 u.2) mc ms (fun q => lo ≤ q)) (hR : gcR R rm mx mc ms) (hB : gcB s args yy bb mx rr ws nn) (hlk : (Cond.methodLink own ix yy).before args s = true) (hin : (Cond.instanceMethod yy).before args s = true) (hsel : (Cond.selects yy.cls yy yy).before args s = true) (hpre : PreV s H yy.cls b Pc As) (hn : As.length = nn) (hls : ls.size = nL) (hw : zW rest ≤ 8) (hd : decode cc pc = .ok (.invokevirtual ix, 3)) (hcs : cells + mc ≤ R.cells ∧ slots + ms ≤ R.slots) (hS : va_S (fun q => lo ≤ q) s.heap H locs)
    (hfin : ∀ (H1 : Heap) (locs1 : List Loc), H1.size = znx u.2 → gRep G lo s u.2 H1 → va_S (fun q => lo ≤ q) s.heap H1 locs1 → W p l e R s m args below meth c H1 locs1 (cells + mc) (slots + ms) Q (F0 m (pc + 3) ls (u.1.toList ++ rest))) : W p l e R s m args below meth c H locs cells slots Q (F0 m pc ls (As.reverse ++ .ref b :: rest)) :=
  g_call (va_runV hCF hM ⟨⟨hR.1, hR.2.1, hR.2.2.1, hR.2.2.2, hB.1, hB.2.1, hB.2.2.1, hB.2.2.2.1, hB.2.2.2.2.1, hB.2.2.2.2.2, hlk⟩, hin, hsel⟩ hpre rfl hn hls rfl (lv_room hw) hd hcs) hS hfin
theorem gc_S (hCF : CallFix p m c cc nL s args bigW own) (hM : Met l yy ws rm Pc (gQ G lo u.1 u.2) mc ms (fun q => lo ≤ q)) (hR : gcR R rm mx mc ms) (hB : gcB s args yy bb mx rr ws nn) (hlk : (Cond.methodLink own ix yy).before args s = true) (hst : (Cond.static yy).before args s = true) (hpre : PreS s H Pc As) (hn : As.length = nn) (hls : ls.size = nL) (hw : zW rest ≤ 8) (hd : decode cc pc = .ok (.invokestatic ix, 3)) (hcs : cells + mc ≤ R.cells ∧ slots + ms ≤ R.slots) (hS : va_S (fun q => lo ≤ q) s.heap H locs)
    (hfin : ∀ (H1 : Heap) (locs1 : List Loc), H1.size = znx u.2 → gRep G lo s u.2 H1 → va_S (fun q => lo ≤ q) s.heap H1 locs1 → W p l e R s m args below meth c H1 locs1 (cells + mc) (slots + ms) Q (F0 m (pc + 3) ls (u.1.toList ++ rest))) : W p l e R s m args below meth c H locs cells slots Q (F0 m pc ls (As.reverse ++ rest)) :=
  g_call (va_runS hCF hM ⟨⟨hR.1, hR.2.1, hR.2.2.1, hR.2.2.2, hB.1, hB.2.1, hB.2.2.1, hB.2.2.2.1, hB.2.2.2.2.1, hB.2.2.2.2.2, hlk⟩, hst⟩ hpre rfl hn hls rfl (lv_room hw) hd hcs) hS hfin
theorem gc_SN {host : String} (hCF : CallFix p m c cc nL s args bigW own) (hM : Met l yy ws rm Pc (gQ G lo u.1 u.2) mc ms (fun q => lo ≤ q)) (hR : gcR R rm mx mc ms) (hB : gcB s args yy bb mx rr ws nn) (hlk : va_Nw (Cond.methodLinkNest own ix yy host) s) (hst : (Cond.static yy).before args s = true) (hpre : PreS s H Pc As) (hn : As.length = nn) (hls : ls.size = nL) (hw : zW rest ≤ 8) (hd : decode cc pc = .ok (.invokestatic ix, 3)) (hcs : cells + mc ≤ R.cells ∧ slots + ms ≤ R.slots) (hS : va_S (fun q => lo ≤ q) s.heap H locs)
    (hfin : ∀ (H1 : Heap) (locs1 : List Loc), H1.size = znx u.2 → gRep G lo s u.2 H1 → va_S (fun q => lo ≤ q) s.heap H1 locs1 → W p l e R s m args below meth c H1 locs1 (cells + mc) (slots + ms) Q (F0 m (pc + 3) ls (u.1.toList ++ rest))) : W p l e R s m args below meth c H locs cells slots Q (F0 m pc ls (As.reverse ++ rest)) :=
  g_call (va_runSN hCF hM ⟨⟨⟨hR.1, hR.2.1, hR.2.2.1, hR.2.2.2, hB.1, hB.2.1⟩, hB.2.2.1, hB.2.2.2.1, hB.2.2.2.2.1, hB.2.2.2.2.2, va_Nw.use rfl hlk⟩, hst, trivial⟩ hpre rfl hn hls rfl (lv_room hw) hd hcs) hS hfin
theorem gc_I (hCF : CallFix p m c cc nL s args bigW own) (hM : Met l yy ws rm Pc (gQ G lo u.1 u.2) mc ms (fun q => lo ≤ q)) (hR : gcR R rm mx mc ms) (hB : gcB s args yy bb mx none ws nn) (hlk : (Cond.methodLink own ix yy).before args s = true) (hin : (Cond.instanceMethod yy).before args s = true) (hname : yy.name = "<init>") (hpre : PreS s H Pc (.ref b :: As)) (hn : As.length = nn) (hls : ls.size = nL) (hw : zW rest ≤ 8) (hd : decode cc pc = .ok (.invokespecial ix, 3)) (hcs : cells + mc ≤ R.cells ∧ slots + ms ≤ R.slots) (hS : va_S (fun q => lo ≤ q) s.heap H locs)
    (hfin : ∀ (H1 : Heap) (locs1 : List Loc), H1.size = znx u.2 → gRep G lo s u.2 H1 → va_S (fun q => lo ≤ q) s.heap H1 locs1 → W p l e R s m args below meth c H1 locs1 (cells + mc) (slots + ms) Q (F0 m (pc + 3) ls (u.1.toList ++ rest))) : W p l e R s m args below meth c H locs cells slots Q (F0 m pc ls (As.reverse ++ .ref b :: rest)) :=
  g_call (va_runI hCF hM ⟨⟨hR.1, hR.2.1, hR.2.2.1, hR.2.2.2, hB.1, hB.2.1, hB.2.2.1, hB.2.2.2.1, hB.2.2.2.2.1, hB.2.2.2.2.2, hlk⟩, hname, hin⟩ hpre rfl hn hls rfl (lv_room hw) hd hcs) hS hfin
theorem gc_IN {host : String} (hCF : CallFix p m c cc nL s args bigW own) (hM : Met l yy ws rm Pc (gQ G lo u.1 u.2) mc ms (fun q => lo ≤ q)) (hR : gcR R rm mx mc ms) (hB : gcB s args yy bb mx none ws nn) (hlk : va_Nw (Cond.methodLinkNest own ix yy host) s) (hin : (Cond.instanceMethod yy).before args s = true) (hname : yy.name = "<init>") (hpre : PreS s H Pc (.ref b :: As)) (hn : As.length = nn) (hls : ls.size = nL) (hw : zW rest ≤ 8) (hd : decode cc pc = .ok (.invokespecial ix, 3)) (hcs : cells + mc ≤ R.cells ∧ slots + ms ≤ R.slots) (hS : va_S (fun q => lo ≤ q) s.heap H locs)
    (hfin : ∀ (H1 : Heap) (locs1 : List Loc), H1.size = znx u.2 → gRep G lo s u.2 H1 → va_S (fun q => lo ≤ q) s.heap H1 locs1 → W p l e R s m args below meth c H1 locs1 (cells + mc) (slots + ms) Q (F0 m (pc + 3) ls (u.1.toList ++ rest))) : W p l e R s m args below meth c H locs cells slots Q (F0 m pc ls (As.reverse ++ .ref b :: rest)) :=
  g_call (va_runIN hCF hM ⟨⟨⟨hR.1, hR.2.1, hR.2.2.1, hR.2.2.2, hB.1, hB.2.1⟩, hB.2.2.1, hB.2.2.2.1, hB.2.2.2.2.1, hB.2.2.2.2.2, va_Nw.use rfl hlk⟩, hname, hin⟩ hpre rfl hn hls rfl (lv_room hw) hd hcs) hS hfin
end GC
theorem gcB_of {s : State} {args : Array Value} {x nn : Nat} (hts : ∀ w ∈ bigW, w.before args s = true) (hx2 : x < 204) (hpd : (parseMethodDescriptor (mY x).desc).map (fun d => d.parameters.length) = some nn) : gcB s args (mY x) (mB x) (mL x) (mR x) (wsM x) nn := by
  obtain ⟨w1, w2, w3, w4⟩ := mW hx2
  refine ⟨pay_in hts (goodIn_big (wsM_in hx2)), List.mem_cons_self, hts _ w1, ?_, ?_, ?_⟩
  · rw [w2]; exact hts _ (ini_ok _ w3)
  · rw [w2]; exact ⟨(cn_ok _ w3 w4).1, (cn_ok _ w3 w4).2.1⟩
  · intro sig hsig
    rw [hsig] at hpd
    exact (Option.some.inj hpd).symm
theorem zKd_5 {i : Instr} {y : Nat} (h : zKd i y = 1) : y < 5 ∧ ((∃ n, i = .invokevirtual n) ∨ (∃ n, i = .invokestatic n) ∨ ∃ n, i = .invokespecial n) := by
  unfold zKd at h
  split at h
  · split at h
    · exact ⟨by assumption, Or.inl ⟨_, rfl⟩⟩
    · cases h
  · split at h
    · exact ⟨by assumption, Or.inr (Or.inr ⟨_, rfl⟩)⟩
    · cases h
  · split at h
    · exact ⟨by assumption, Or.inr (Or.inl ⟨_, rfl⟩)⟩
    · cases h
  · cases h
  · cases h
  · cases h
  · cases h
  · cases h
/-- a call, out of its entry -/
theorem z_call {n M pc : Nat} (ih : zGood l G lo n) {i : Instr} {x y : Nat} {z : Int} (hc : zcode M pc = some (i, x, y, z)) (hkd : zKd i y = 1) {S : List Value} {σ : zSt} {q : List Value × List Value} (hq : zCa x y z.toNat S σ = some q) (hw : zW q.2 ≤ 8 ∧ (zArgs q.1).length ≤ mL x) {u1 : Option Value × zSt} (hu1 : zRun n x 0 (zL0 x q.1) [] σ = some u1)
    {R : Room} {s : State} {m : MethodId} {args : Array Value} {below : List Frame} {meth : Method} {c : Code} {H : Heap} {locs : List Loc} {Q : State → Prop} {ls : Array Slot} {cells slots : Nat}
    (C : zCtx p s m args meth c G lo M (ze0 σ) (zmi σ)) (hsz : H.size = znx σ) (hG : gRep G lo s σ H) (hS : va_S (fun q => lo ≤ q) s.heap H locs) (hls : ls.size = mL M) (hfr : mDep M ≤ R.frames) (hloc : mLoc M ≤ R.locals) (hcs : cells + (znx u1.2 - znx σ) ≤ R.cells ∧ slots + (zsl u1.2 - zsl σ) ≤ R.slots)
    (hfin : ∀ (H1 : Heap) (locs1 : List Loc), H1.size = znx u1.2 → gRep G lo s u1.2 H1 → va_S (fun q => lo ≤ q) s.heap H1 locs1 → W p l e R s m args below meth c H1 locs1 (cells + (znx u1.2 - znx σ)) (slots + (zsl u1.2 - zsl σ)) Q (F0 m (pc + 3) ls (u1.1.toList ++ q.2))) : W p l e R s m args below meth c H locs cells slots Q (F0 m pc ls S) := by
  obtain ⟨hx, hb, hml, hown, hts, hname, hK, hgS, hlo0⟩ := C
  have hd := zcode_dec hc
  have ok := zcode_ok hc
  have hCF : CallFix p m c (mB M) (mL M) s args bigW (cNm (mC M)) := ⟨hx, hb, hml, hown, hts⟩
  have hpre : ∀ U : State, U.heap = H → s.WarmedH U.vm → gB G lo σ U := fun U hU hW => gB.pre hK hgS hlo0 hsz hG hS hU hW
  obtain ⟨h5, hi⟩ := zKd_5 hkd
  rcases hi with ⟨ix, rfl⟩ | ⟨ix, rfl⟩ | ⟨ix, rfl⟩
  · have ok := (Bool.and_eq_true_iff.mp (show (zPI.any (fun q => q.1 == mC M && q.2.1 == ix && q.2.2.1 == x && q.2.2.2.1 == y && (q.2.2.2.2 : Int) == z) && (if y = 7 then decide (1 ≤ mDep M ∧ 40 ≤ mLoc M) else y == 0 && zRm (mE M) x)) = true from ok))
    obtain ⟨nn, hnn, b1, b2, b3, b4, b5, b6, b7, b8⟩ := inv_ok2 h5 ok.1
    have ok2 := ok.2
    rw [if_neg (by omega)] at ok2
    have ok2 := Bool.and_eq_true_iff.mp ok2
    have hy0 : y = 0 := beq_iff_eq.mp ok2.1
    obtain ⟨r1, r2, r3⟩ := zRm_spec ok2.2
    rcases zCa_spec hq with ⟨hy, -⟩ | ⟨hy, b, As, e1, e2, e3, e4⟩
    · omega
    · obtain ⟨t1, t2⟩ := e4 hy0
      obtain ⟨h0, ⟨cell, q1, q2, q3, q4⟩, -⟩ := hG.obj t1
      have hcl := (hK.cls h0).2
      rw [(cls_ok _ h0).2, t2] at hcl
      rw [t2] at q2
      obtain ⟨w1, w2, w3, w4⟩ := mW b3
      have hM := z_met ih b3 hw.2 hu1
      rw [e1] at hM
      subst e2
      exact gc_V hCF hM ⟨rfl, rfl, Nat.le_trans r1 hfr, Nat.le_trans r2 hloc⟩ (gcB_of hts b3 b4) (hts _ (b2 (by omega))) (hts _ (b7 hy)) (hts _ (b5 hy0)) ⟨gB.blind, ⟨cell, q1, by rw [q3]; rfl, by rw [w2, q2]; exact hcl.1⟩, fun U hU hW => ⟨rfl, hpre U hU hW⟩⟩ (e3.trans hnn) hls hw.1 hd hcs hS hfin
  · have ok := (Bool.and_eq_true_iff.mp (show (zPI.any (fun q => q.1 == mC M && q.2.1 == ix && q.2.2.1 == x && q.2.2.2.1 == y && (q.2.2.2.2 : Int) == z) && (if y = 6 ∨ y = 8 ∨ y = 9 then decide (1 ≤ mDep M ∧ 40 ≤ mLoc M) else (y == 1 || y == 4) && zRm (mE M) x)) = true from ok))
    obtain ⟨nn, hnn, b1, b2, b3, b4, b5, b6, b7, b8⟩ := inv_ok2 h5 ok.1
    have ok2 := ok.2
    rw [if_neg (by omega)] at ok2
    have ok2 := Bool.and_eq_true_iff.mp ok2
    have hy0 : y = 1 ∨ y = 4 := by simpa using ok2.1
    obtain ⟨r1, r2, r3⟩ := zRm_spec ok2.2
    rcases zCa_spec hq with ⟨-, e2, e3⟩ | ⟨hy, -⟩
    · have hM := z_met ih b3 hw.2 hu1
      subst e2
      rcases hy0 with hy1 | hy4
      · exact gc_S hCF hM ⟨rfl, rfl, Nat.le_trans r1 hfr, Nat.le_trans r2 hloc⟩ (gcB_of hts b3 b4) (hts _ (b2 (by omega))) (hts _ (b6 (Or.inl hy1))) ⟨gB.blind, fun U hU hW => ⟨rfl, hpre U hU hW⟩⟩ (e3.trans hnn) hls hw.1 hd hcs hS hfin
      · exact gc_SN hCF hM ⟨rfl, rfl, Nat.le_trans r1 hfr, Nat.le_trans r2 hloc⟩ (gcB_of hts b3 b4) (b1 (Or.inr hy4) s hgS.2.2.2.1) (hts _ (b6 (Or.inr hy4))) ⟨gB.blind, fun U hU hW => ⟨rfl, hpre U hU hW⟩⟩ (e3.trans hnn) hls hw.1 hd hcs hS hfin
    · exact absurd hy0 hy
  · have ok := (Bool.and_eq_true_iff.mp (show (zPI.any (fun q => q.1 == mC M && q.2.1 == ix && q.2.2.1 == x && q.2.2.2.1 == y && (q.2.2.2.2 : Int) == z) && (if y = 5 then decide (1 ≤ mDep M ∧ 40 ≤ mLoc M) else (y == 2 || y == 3) && zRm (mE M) x)) = true from ok))
    obtain ⟨nn, hnn, b1, b2, b3, b4, b5, b6, b7, b8⟩ := inv_ok2 h5 ok.1
    have ok2 := ok.2
    rw [if_neg (by omega)] at ok2
    have ok2 := Bool.and_eq_true_iff.mp ok2
    have hy0 : y = 2 ∨ y = 3 := by simpa using ok2.1
    obtain ⟨r1, r2, r3⟩ := zRm_spec ok2.2
    rcases zCa_spec hq with ⟨hy, -⟩ | ⟨hy, b, As, e1, e2, e3, e4⟩
    · omega
    · obtain ⟨g8, g9⟩ := b8 hy0
      have hM := z_met ih b3 hw.2 hu1
      rw [e1] at hM
      subst e2
      have hB := gcB_of (args := args) hts b3 b4
      rw [g9] at hB
      rcases hy0 with hy2 | hy3
      · exact gc_I hCF hM ⟨rfl, rfl, Nat.le_trans r1 hfr, Nat.le_trans r2 hloc⟩ hB (hts _ (b2 (by omega))) (hts _ (b7 hy)) g8 ⟨gB.blind, fun U hU hW => ⟨rfl, hpre U hU hW⟩⟩ (e3.trans hnn) hls hw.1 hd hcs hS hfin
      · exact gc_IN hCF hM ⟨rfl, rfl, Nat.le_trans r1 hfr, Nat.le_trans r2 hloc⟩ hB (b1 (Or.inr hy3 |> Or.symm) s hgS.2.2.2.1) (hts _ (b7 hy)) g8 ⟨gB.blind, fun U hU hW => ⟨rfl, hpre U hU hW⟩⟩ (e3.trans hnn) hls hw.1 hd hcs hS hfin
theorem zRun_good (l : Launch) (G : zG) (lo : Nat) : ∀ n, zGood l G lo n
  | 0 => fun M pc L S σ u h => by cases h
  | n + 1 => by
    have ih := zRun_good l G lo n
    intro M pc L S σ u h p e R s m args below meth c H locs Q ls nx0 sl0 C hsz hG hS hl hfr hloc hn0 hs0 hcR hsR hend
    unfold zRun at h
    split at h
    · cases h
    · rename_i i x y z hc
      split at h
      · split at h
        · cases h
        · rename_i q hq
          have m1 := z1_mono hq
          have m2 := zRun_mono _ _ _ _ _ _ _ h
          have C2 := C
          rw [← m1.2.2.1, ← m1.2.2.2] at C2
          refine z1_sound C hc hq hsz hG hS hl hfr hloc hn0 hs0 (Nat.le_trans (Nat.sub_le_sub_right m2.1 _) hcR) (Nat.le_trans (Nat.sub_le_sub_right m2.2.1 _) hsR) (fun H1 locs1 ls1 k1 k2 k3 k4 => ?_)
          exact ih M _ _ _ _ _ h p e R s m args below meth c H1 locs1 Q ls1 nx0 sl0 C2 k1 k2 k3 k4 hfr hloc (Nat.le_trans hn0 m1.1) (Nat.le_trans hs0 m1.2.1) hcR hsR hend
      · rename_i hkd
        split at h
        · cases h
        · rename_i q hq
          split at h
          · rename_i hw
            split at h
            · cases h
            · rename_i u1 hu1
              have m1 := zRun_mono _ _ _ _ _ _ _ hu1
              have m2 := zRun_mono _ _ _ _ _ _ _ h
              have C2 := C
              rw [← m1.2.2.1, ← m1.2.2.2] at C2
              have hcs : znx σ - nx0 + (znx u1.2 - znx σ) ≤ R.cells ∧ zsl σ - sl0 + (zsl u1.2 - zsl σ) ≤ R.slots := by
                have h1 := m1.1
                have h2 := m1.2.1
                have h3 := m2.1
                have h4 := m2.2.1
                exact ⟨by omega, by omega⟩
              refine z_call ih hc hkd hq hw hu1 C hsz hG hS hl.1 hfr hloc hcs (fun H1 locs1 k1 k2 k3 => ?_)
              refine W.cs (show znx σ - nx0 + (znx u1.2 - znx σ) = znx u1.2 - nx0 by have := m1.1; omega) (show zsl σ - sl0 + (zsl u1.2 - zsl σ) = zsl u1.2 - sl0 by have := m1.2.1; omega) ?_
              exact ih M _ _ _ _ _ h p e R s m args below meth c H1 locs1 Q ls nx0 sl0 C2 k1 k2 k3 hl hfr hloc (Nat.le_trans hn0 m1.1) (Nat.le_trans hs0 m1.2.1) hcR hsR hend
          · cases h
      · obtain ⟨r, σ1⟩ := u
        obtain ⟨g1, g2⟩ := zRet_spec h
        dsimp only at g1 g2
        subst g1
        have hd := zcode_dec hc
        rw [show zLen pc (i, x, y, z).1 = 1 from zRet_len h pc] at hd
        subst g2
        exact hend H locs pc ls i hsz hG hS hd h
end ZZ
end
section
/-! FROM THE 204's ENTRY: the machine over fields at its start; what is left is a run of it -/
theorem siteTy_of (t : Nat) : siteTy t = .int ∨ siteTy t = .boolean ∨ siteTy t = .array .int ∨ siteTy t = .object "BuildCache$Content" ∨ siteTy t = .object "BuildCache$Key" ∨ siteTy t = .object "java/lang/Object" := by
  unfold siteTy
  by_cases h1 : t = 6 ∨ t = 7
  · rw [if_pos h1]; simp
  rw [if_neg h1]
  by_cases h2 : t = 8
  · rw [if_pos h2]; simp
  rw [if_neg h2]
  by_cases h3 : t = 9
  · rw [if_pos h3]; simp
  rw [if_neg h3]
  by_cases h4 : t = 11
  · rw [if_pos h4]; simp
  rw [if_neg h4]
  split <;> simp
/-- the start: the script at b, the empty array at e, nothing else -/
def zInit (b ee mi n0 L : Nat) (xs : Nat → Int32) : zSt := zmk (fun a => if a = b then (4, 12, L) else if a = ee then (5, 0, 0) else (0, 0, 0)) (fun _ _ _ => 0) (fun _ _ _ => 0) (fun _ _ _ => none) (fun _ _ => xs) (fun _ _ _ => none) n0 0 ee mi
/-- WHAT IS LEFT: the law's own run ends, with 1, within the room -/
def zLawOK : Prop := ∀ (b ee mi n0 L : Nat) (xs : Nat → Int32), L ≤ 2048 → b < n0 → ee < n0 → b ≠ ee → ∃ n u, zRun n 204 0 (zL0 204 [.ref b]) [] (zInit b ee mi n0 L xs) = some u ∧ u.1 = some (.int 1) ∧ znx u.2 - n0 ≤ 600000 ∧ zsl u.2 ≤ 7302250
theorem gK_start {s : State} {args : Array Value} (hts : ∀ w ∈ lw_tbl, w.before args s = true) : ∃ G : zG, gK G s := by
  have htb : ∀ w ∈ bigW, w.before args s = true := fun w hw => hts w (bigW_tbl hw)
  have h1 : ∀ ci : Nat, ∃ q : ClassId × (Nat → Nat), ci < 14 → u_Kn s (cRow ci).1 (cRow ci).2.1 (cRow ci).2.2 q.1 q.2 := by
    intro ci
    by_cases hc : ci < 14
    · have hin := htb _ (ins_ok ci hc)
      rw [← (cls_ok ci hc).2] at hin
      obtain ⟨cC, iS, h⟩ := u_known htb (lay_ok ci hc) hin
      exact ⟨(cC, iS), fun _ => h⟩
    · exact ⟨(0, fun _ => 0), fun h => absurd h hc⟩
  obtain ⟨F, hF⟩ := Classical.axiomOfChoice h1
  have h2 : ∀ t : Nat, ∃ cA : ClassId, ArrOfT s cA (siteTy t) ∧ va_RA s cA (siteTy t) := by
    intro t
    rcases siteTy_of t with h | h | h | h | h | h
    · rw [h]
      obtain ⟨cA, k, comp, g1, g2, g3⟩ := Cond.arrayClass_spec (htb _ w_aI)
      exact ⟨cA, fun n z => ⟨fun k h => (by cases h), k, g2, comp, g3⟩, g1⟩
    · rw [h]
      obtain ⟨cA, k, comp, g1, g2, g3⟩ := Cond.arrayClass_spec (htb _ w_aZ)
      exact ⟨cA, fun n z => ⟨fun k h => (by cases h), k, g2, comp, g3⟩, g1⟩
    · rw [h]
      obtain ⟨comp, cA, k, g0, -, g2, g3, g1⟩ := arrayOverA_spec (hts _ (tl2 (i := 36) rfl))
      exact ⟨cA, fun n z => ⟨fun k h => (by cases h), k, g2, comp, g3⟩, g1⟩
    · rw [h]
      obtain ⟨comp, cA, k, g0, -, g2, g3, g1⟩ := Cond.arrayOver_spec (hts _ (tl1 (i := 79) rfl))
      exact ⟨cA, fun n z => ⟨fun k h => (by cases h), k, g2, comp, g3⟩, k, comp, g2, g3, g0, g1⟩
    · rw [h]
      obtain ⟨comp, cA, k, g0, -, g2, g3, g1⟩ := Cond.arrayOver_spec (hts _ (tl3 (i := 25) rfl))
      exact ⟨cA, fun n z => ⟨fun k h => (by cases h), k, g2, comp, g3⟩, k, comp, g2, g3, g0, g1⟩
    · rw [h]
      obtain ⟨comp, cA, k, g0, -, g2, g3, g1⟩ := Cond.arrayOver_spec (hts _ (tl1 (i := 197) rfl))
      exact ⟨cA, fun n z => ⟨fun k h => (by cases h), k, g2, comp, g3⟩, k, comp, g2, g3, g0, g1⟩
  obtain ⟨A, hA⟩ := Classical.axiomOfChoice h2
  refine ⟨((fun k => (F k).1, fun k => (F k).2), A), ⟨fun ci q hq => ?_, fun k q hk => by simp at hk⟩, hA⟩
  have hc : ci < 14 := (List.getElem?_eq_some_iff.mp hq).1
  have e1 : q = cRow ci := Option.some.inj (hq.symm.trans (cls_ok ci hc).1)
  rw [e1]
  exact hF ci hc
theorem gS_start {s : State} {b : Addr} (hts : ∀ w ∈ lw_tbl, w.before #[Value.ref b] s = true) (hgv : (Jvm.Cond.and given_1 narrow_1).before #[Value.ref b] s = true) : ∃ ee mi : Nat, gS s.heap.size ee mi s ∧ va_T (.object "java/lang/Object") ee 0 (fun _ => .null) (fun q => s.heap.size ≤ q) s s.heap := by
  have hs := flat_of_before _ hgv
  have harr : (Cond.arrayOf (.static "java/util/ArrayList" "DEFAULTCAPACITY_EMPTY_ELEMENTDATA" "[Ljava/lang/Object;") (.object "java/lang/Object")).before #[Value.ref b] s = true := hs _ (by decide +kernel)
  have hlen : (Cond.eq (.length (.static "java/util/ArrayList" "DEFAULTCAPACITY_EMPTY_ELEMENTDATA" "[Ljava/lang/Object;")) (.int 0)).before #[Value.ref b] s = true := hs _ (by decide +kernel)
  have hmir : (Cond.isRef (.mirror "[Ljava/lang/Object;")).before #[Value.ref b] s = true := hs _ (by decide +kernel)
  have hA : ∀ a : Nat, a < s.heap.size → ¬ (s.heap.size ≤ a) := fun a h => Nat.not_le.mpr h
  obtain ⟨ee, h1, h2⟩ := va_Tof (N := 0) (f := fun _ => .null) (A := fun q => s.heap.size ≤ q) (by decide) harr (va_eqt hlen) (fun j hj => absurd hj (Nat.not_lt_zero j)) hA
  obtain ⟨mi, h3⟩ := va_Mi.of hmir
  refine ⟨ee, mi, ⟨va_Zref (hts _ (tl1 (i := 51) rfl)) (hts _ (tl1 (i := 5) rfl)) h1 hA, h3, va_Dc.of (hts _ (tl6 (i := 207) rfl)), ?_, ?_, ⟨hts _ (tl1 (i := 79) rfl), hts _ (tl3 (i := 25) rfl), hts _ (tl1 (i := 197) rfl)⟩, hts _ (tl2 (i := 36) rfl)⟩, h2⟩
  · intro q hq hk
    have h4 := (pi_ok q hq).1
    rw [if_pos hk] at h4
    exact va_Nw.of rfl (hts _ h4)
  · intro k hk
    rcases hk with rfl | rfl | rfl
    · exact va_Nw.of rfl (hts _ (tl6 (i := 203) rfl))
    · exact va_Nw.of rfl (hts _ (tl6 (i := 204) rfl))
    · exact va_Nw.of rfl (hts _ (tl6 (i := 196) rfl))
theorem z_apart0 {s : State} {b ee L : Nat} {xs : Nat → Int32} {A : Nat → Prop} (h1 : va_X b L xs s s.heap) (h2 : va_T (.object "java/lang/Object") ee 0 (fun _ => .null) A s s.heap) : b ≠ ee := by
  intro he
  subst he
  obtain ⟨c1, g1, ⟨-, k1, g2, m1, g3⟩, -⟩ := h1
  obtain ⟨c2, f1, ⟨-, k2, f2, m2, f3⟩, -⟩ := h2
  cases g1.symm.trans f1
  cases g2.symm.trans f2
  cases g3.symm.trans f3
end
section
/-! THE CLAIM OUT OF ONE WALK OF THE LAW'S BODY. Your part is whole_start (and what it stands on); all else here is the same for every law, but numbers. -/
def R_law : String := "BuildCacheLaw"
def lw_P (b : Addr) (xs : List Int32) (args : Array Value) (s : State) : Prop := args = #[.ref b] ∧ s.IntsAt b xs ∧ xs.length ≤ 2048 ∧ (Jvm.Cond.and given_1 narrow_1).before args s = true
def lw_Q (_ : Array Value) (s : State) (o : Outcome) (t : State) : Prop := o = .returned (some (.int 1)) ∧ Framed s o t [] 600000 7302250
def lw_Z (below : List Frame) (a : Array Value) (s : State) : State → Prop := fun t => ∃ o, t.status = .running ∧ Ended t below o ∧ lw_Q a s o t
/-- the law's own end, with 1 on the stack, nothing written that was there before, its room as the claim has it -/
theorem lw_ret {p : Program} {l : Launch} {e : Env} {s : State} {m : MethodId} {below : List Frame} {meth : Method} {c : Code} {b : Nat} (hx : p.tables.exec = Jvm.exec) (hb : c.code = code) (hr : meth.sig.returnType = ret) (hlocks : meth.locks = false) {pc : Nat} {H : Heap} {ls : Array Slot} (hdg : decode code pc = .ok (.ireturn, 1)) : W p l e room_1 s m #[Value.ref b] below meth c H [] 600000 7302250 (lw_Z below #[Value.ref b] s) (F0 m pc ls [.int 1]) := by
  intro T hT X
  obtain ⟨fs, hret, hrun, hended, hW, hframe⟩ := X.leave (v := some (.int 1)) (hlocks := hlocks) (fun h => by rw [hr] at h; cases h)
  have hmeth' : T.vm.method? m = some meth := X.method'
  refine ⟨T.setFrames fs, ?_, .returned (some (.int 1)), hrun, hended, rfl, ⟨_, rfl⟩, hW, hframe⟩
  jvm_step X.here [X.here.top, hx, hb, hdg, hmeth', hr, ret, narrow_b1]
  (try refine ⟨rfl, ?_⟩); (try refine ⟨rfl, ?_⟩)
  first | (intro acts; rw [hret _ acts rfl rfl rfl]) | rw [hret _ _ rfl rfl rfl]
  exact Steps.refl _
/-- what holds at the law's entry: the machine, the code, the tables' words (any of lw_tbl by 'hts w (by decide +kernel)'), the script of L ints xs at the cell b, what the Statement gives of the start (any of its parts by flat_of_before) -/
def lw_At (p : Program) (s : State) (m : MethodId) (meth : Method) (c : Code) (b L : Nat) (xs : Nat → Int32) : Prop :=
  p.tables.exec = Jvm.exec ∧ c.code = code ∧ meth.sig.returnType = ret ∧ c.maxLocals = 4 ∧ s.vm.findClass R_law = some m.cls ∧ (∀ w ∈ lw_tbl, w.before #[Value.ref b] s = true) ∧ va_X b L xs s s.heap ∧ b < s.heap.size ∧ meth.locks = false ∧ (Jvm.Cond.and given_1 narrow_1).before #[Value.ref b] s = true
set_option maxHeartbeats 4000000 in
theorem whole_start_of (hz : zLawOK) {p : Program} {e : Env} {s : State} {m : MethodId} {below : List Frame} {meth : Method} {c : Code} (l : Launch) {b L : Nat} {xs : Nat → Int32} (hL : L ≤ 2048) (C0 : lw_At p s m meth c b L xs) : W p l e room_1 s m #[Value.ref b] below meth c s.heap [] 0 0 (lw_Z below #[Value.ref b] s) (entryFrame m ([Value.ref b] : List Value).toArray 4) := by
  obtain ⟨hx, hb, hr, hml, hown, hts, hX, hbl, hlocks, hgv⟩ := id C0
  obtain ⟨G, hK⟩ := gK_start hts
  obtain ⟨ee, mi, hgS, hT0⟩ := gS_start hts hgv
  have hee : ee < s.heap.size := by obtain ⟨cell, h1, -⟩ := hT0; exact (Array.getElem?_eq_some_iff.mp h1).1
  have hne := z_apart0 hX hT0
  obtain ⟨n, u, hrun, hu, hc1, hc2⟩ := hz b ee mi s.heap.size L xs hL hbl hee hne
  have hGr : gRep G s.heap.size s (zInit b ee mi s.heap.size L xs) s.heap := by
    intro a
    by_cases e1 : a = b
    · subst e1
      have htg : ztg (zInit a ee mi s.heap.size L xs) a = (4, 12, L) := if_pos rfl
      have hn : ∀ z : Nat, (4 : Nat) = z → z ≠ 4 → False := fun z g1 g2 => g2 g1.symm
      unfold gAt
      rw [htg]
      exact ⟨fun h => (hn _ h (by decide)).elim, fun h => (hn _ h (by decide)).elim, fun h => (hn _ h (by decide)).elim, fun _ => ⟨rfl, hX, Nat.not_le.mpr hbl⟩, fun h => (hn _ h (by decide)).elim⟩
    · by_cases e2 : a = ee
      · subst e2
        have htg : ztg (zInit b a mi s.heap.size L xs) a = (5, 0, 0) := (if_neg e1).trans (if_pos rfl)
        have hn : ∀ z : Nat, (5 : Nat) = z → z ≠ 5 → False := fun z g1 g2 => g2 g1.symm
        unfold gAt
        rw [htg]
        exact ⟨fun h => (hn _ h (by decide)).elim, fun h => (hn _ h (by decide)).elim, fun h => (hn _ h (by decide)).elim, fun h => (hn _ h (by decide)).elim, fun _ => hT0⟩
      · have htg : ztg (zInit b ee mi s.heap.size L xs) a = (0, 0, 0) := (if_neg e1).trans (if_neg e2)
        have hn : ∀ z : Nat, (0 : Nat) = z → z ≠ 0 → False := fun z g1 g2 => g2 g1.symm
        unfold gAt
        rw [htg]
        exact ⟨fun h => (hn _ h (by decide)).elim, fun h => (hn _ h (by decide)).elim, fun h => (hn _ h (by decide)).elim, fun h => (hn _ h (by decide)).elim, fun h => (hn _ h (by decide)).elim⟩
  rw [lg_entry_eq]
  have hl := zLH_entry (m := 204) (vs := [.ref b]) (show 1 ≤ mL 204 by decide +kernel)
  have key := zRun_good l G s.heap.size n 204 0 _ _ _ _ hrun p e room_1 s m #[Value.ref b] below meth c s.heap [] (lw_Z below #[Value.ref b] s) _ s.heap.size 0
    ⟨hx, hb, hml, hown, fun w hw => hts w (bigW_tbl hw), fun h => absurd h (by decide +kernel), hK, hgS, Nat.le_refl _⟩ rfl hGr va_S.rf hl (by decide +kernel) (by decide +kernel) (Nat.le_refl _) (Nat.le_refl _) hc1 hc2
    (fun H1 locs1 pc1 ls1 i k1 k2 k3 k4 k5 => by
      obtain ⟨r, σ1⟩ := u
      dsimp only at hu hc1 hc2 k5 ⊢
      subst hu
      refine va_forget (fun q hq => k3.2.2 q hq) ?_
      refine W.widen (k := 600000) (n := 7302250) hc1 hc2 ?_
      have hi : i = .ireturn := by
        cases i <;> first | rfl | cases k5
      subst hi
      exact lw_ret hx hb hr hlocks k4)
  have e0 : znx (zInit b ee mi s.heap.size L xs) - s.heap.size = 0 := Nat.sub_self _
  have e1 : zsl (zInit b ee mi s.heap.size L xs) - 0 = 0 := rfl
  rw [e0, e1] at key
  exact key
end
section
/-! RUNS OF THE MACHINE OVER FIELDS: what a run comes to -/
theorem zRun_s {n m pc x y : Nat} {z : Int} {i : Instr} {L : List (Option Value)} {S : List Value} {σ : zSt} (hc : zcode m pc = some (i, x, y, z)) (hk : zKd i y = 0) : zRun (n + 1) m pc L S σ = (match z1 i x y z (mL m) pc L S σ with
    | none => none
    | some q => zRun n m q.1 q.2.1 q.2.2.1 q.2.2.2) := by
  rw [zRun, hc]
  simp only [hk]
  rfl
theorem zRun_c {n m pc x y : Nat} {z : Int} {i : Instr} {L : List (Option Value)} {S : List Value} {σ : zSt} (hc : zcode m pc = some (i, x, y, z)) (hk : zKd i y = 1) : zRun (n + 1) m pc L S σ = (match zCa x y z.toNat S σ with
    | none => none
    | some q => if zW q.2 ≤ 8 ∧ (zArgs q.1).length ≤ mL x then (match zRun n x 0 (zL0 x q.1) [] σ with
      | none => none
      | some u => zRun n m (pc + 3) L (u.1.toList ++ q.2) u.2) else none) := by
  rw [zRun, hc]
  simp only [hk]
  rfl
theorem zRun_r {n m pc x y : Nat} {z : Int} {i : Instr} {L : List (Option Value)} {S : List Value} {σ : zSt} (hc : zcode m pc = some (i, x, y, z)) (hk : zKd i y = 2) : zRun (n + 1) m pc L S σ = zRet i (mR m) S σ := by
  rw [zRun, hc]
  simp only [hk]
theorem zKd_012 (i : Instr) (y : Nat) : zKd i y = 0 ∨ zKd i y = 1 ∨ zKd i y = 2 := by
  unfold zKd
  split <;> first | (split <;> simp) | simp
theorem zRun_more : ∀ (n m pc : Nat) (L : List (Option Value)) (S : List Value) (σ : zSt) (u : Option Value × zSt), zRun n m pc L S σ = some u → zRun (n + 1) m pc L S σ = some u
  | 0, _, _, _, _, _, _, h => by cases h
  | n + 1, m, pc, L, S, σ, u, h => by
    cases hc : zcode m pc with
    | none => rw [zRun, hc] at h; cases h
    | some t =>
      obtain ⟨i, x, y, z⟩ := t
      rcases zKd_012 i y with hk | hk | hk
      · rw [zRun_s hc hk] at h ⊢
        cases hz : z1 i x y z (mL m) pc L S σ with
        | none => rw [hz] at h; cases h
        | some q => rw [hz] at h; exact zRun_more n _ _ _ _ _ _ h
      · rw [zRun_c hc hk] at h ⊢
        cases hz : zCa x y z.toNat S σ with
        | none => rw [hz] at h; cases h
        | some q =>
          rw [hz] at h
          simp only at h ⊢
          by_cases hw : zW q.2 ≤ 8 ∧ (zArgs q.1).length ≤ mL x
          · rw [if_pos hw] at h ⊢
            cases hr : zRun n x 0 (zL0 x q.1) [] σ with
            | none => rw [hr] at h; cases h
            | some u1 =>
              rw [hr] at h
              rw [zRun_more n _ _ _ _ _ _ hr]
              exact zRun_more n _ _ _ _ _ _ h
          · rw [if_neg hw] at h; cases h
      · rw [zRun_r hc hk] at h ⊢
        exact h
theorem zRun_le {n k m pc : Nat} {L : List (Option Value)} {S : List Value} {σ : zSt} {u : Option Value × zSt} (h : zRun n m pc L S σ = some u) (hk : n ≤ k) : zRun k m pc L S σ = some u := by
  induction hk with
  | refl => exact h
  | step _ ih => exact zRun_more _ _ _ _ _ _ _ ih
def wp (m pc : Nat) (L : List (Option Value)) (S : List Value) (σ : zSt) (P : Option Value → zSt → Prop) : Prop := ∃ n u, zRun n m pc L S σ = some u ∧ P u.1 u.2
def wpM (m : Nat) (av : List Value) (σ : zSt) (P : Option Value → zSt → Prop) : Prop := wp m 0 (zL0 m av) [] σ P
section WP
variable {m pc x y : Nat} {z : Int} {i : Instr} {L : List (Option Value)} {S : List Value} {σ : zSt} {P : Option Value → zSt → Prop}
theorem wp_step {q : zC} (hc : zcode m pc = some (i, x, y, z)) (hk : zKd i y = 0) (h1 : z1 i x y z (mL m) pc L S σ = some q) : wp m pc L S σ P ↔ wp m q.1 q.2.1 q.2.2.1 q.2.2.2 P := by
  constructor
  · rintro ⟨n, u, h, hP⟩
    cases n with
    | zero => cases h
    | succ n =>
      rw [zRun_s hc hk, h1] at h
      exact ⟨n, u, h, hP⟩
  · rintro ⟨n, u, h, hP⟩
    refine ⟨n + 1, u, ?_, hP⟩
    rw [zRun_s hc hk, h1]
    exact h
theorem wp_no (hc : zcode m pc = some (i, x, y, z)) (hk : zKd i y = 0) (h1 : z1 i x y z (mL m) pc L S σ = none) : ¬ wp m pc L S σ P := by
  rintro ⟨n, u, h, hP⟩
  cases n with
  | zero => cases h
  | succ n =>
    rw [zRun_s hc hk, h1] at h
    cases h
/-- an instruction with a condition -/
theorem wp_cond {q : zC} {c : Prop} (hc : zcode m pc = some (i, x, y, z)) (hk : zKd i y = 0) (h1 : c → z1 i x y z (mL m) pc L S σ = some q) (h2 : ¬ c → z1 i x y z (mL m) pc L S σ = none) : wp m pc L S σ P ↔ (c ∧ wp m q.1 q.2.1 q.2.2.1 q.2.2.2 P) := by
  by_cases h : c
  · rw [wp_step hc hk (h1 h)]
    exact ⟨fun g => ⟨h, g⟩, fun g => g.2⟩
  · exact ⟨fun g => absurd g (wp_no hc hk (h2 h)), fun g => absurd g.1 h⟩
/-- a jump on a condition -/
theorem wp_jump {c : Prop} [Decidable c] {off : Int} {t : Nat} {r : List Value} (hc : zcode m pc = some (i, x, y, z)) (hk : zKd i y = 0) (h1 : z1 i x y z (mL m) pc L S σ = zGo (decide c) pc off L r σ) (ht : zJ pc off = some t) : wp m pc L S σ P ↔ (if c then wp m t L r σ P else wp m (pc + 3) L r σ P) := by
  by_cases h : c
  · rw [if_pos h]
    refine wp_step hc hk (q := (t, L, r, σ)) ?_
    rw [h1]
    unfold zGo
    rw [if_pos (decide_eq_true h), ht]
  · rw [if_neg h]
    refine wp_step hc hk (q := (pc + 3, L, r, σ)) ?_
    rw [h1]
    unfold zGo
    rw [if_neg (by simpa using h)]
theorem wp_ret {u : Option Value × zSt} (hc : zcode m pc = some (i, x, y, z)) (hk : zKd i y = 2) (h1 : zRet i (mR m) S σ = some u) : wp m pc L S σ P ↔ P u.1 u.2 := by
  constructor
  · rintro ⟨n, w, h, hP⟩
    cases n with
    | zero => cases h
    | succ n =>
      rw [zRun_r hc hk, h1] at h
      cases h
      exact hP
  · intro hP
    exact ⟨1, u, by rw [zRun_r hc hk, h1], hP⟩
/-- an answer of 0 or 1 -/
theorem wp_retZ {v : Int32} (hc : zcode m pc = some (.ireturn, x, y, z)) (hr : mR m = some .boolean) : wp m pc L [.int v] σ P ↔ ((v = 0 ∨ v = 1) ∧ P (some (.int v)) σ) := by
  have hz : zRet .ireturn (mR m) [.int v] σ = if some FieldType.boolean = some FieldType.int ∨ (some FieldType.boolean = some FieldType.boolean ∧ (v = 0 ∨ v = 1)) then some (some (Value.int v), σ) else none := by
    rw [hr]; rfl
  by_cases h : v = 0 ∨ v = 1
  · rw [if_pos (Or.inr ⟨rfl, h⟩)] at hz
    rw [wp_ret hc rfl hz]
    exact ⟨fun g => ⟨h, g⟩, fun g => g.2⟩
  · rw [if_neg (fun g => by rcases g with g | g; exact absurd g (by decide); exact h g.2)] at hz
    refine ⟨fun g => ?_, fun g => absurd g.1 h⟩
    obtain ⟨n, u, h1, -⟩ := g
    cases n with
    | zero => cases h1
    | succ n =>
      rw [zRun_r hc rfl, hz] at h1
      cases h1
theorem wp_call {q : List Value × List Value} (hc : zcode m pc = some (i, x, y, z)) (hk : zKd i y = 1) (h1 : zCa x y z.toNat S σ = some q) (hw : zW q.2 ≤ 8 ∧ (zArgs q.1).length ≤ mL x) : wp m pc L S σ P ↔ wpM x q.1 σ (fun r σ' => wp m (pc + 3) L (r.toList ++ q.2) σ' P) := by
  constructor
  · rintro ⟨n, u, h, hP⟩
    cases n with
    | zero => cases h
    | succ n =>
      rw [zRun_c hc hk, h1] at h
      simp only [if_pos hw] at h
      cases hr : zRun n x 0 (zL0 x q.1) [] σ with
      | none => rw [hr] at h; cases h
      | some u1 =>
        rw [hr] at h
        exact ⟨n, u1, hr, n, u, h, hP⟩
  · rintro ⟨n, u1, hr, k, u, h, hP⟩
    refine ⟨max n k + 1, u, ?_, hP⟩
    rw [zRun_c hc hk, h1]
    simp only [if_pos hw]
    rw [zRun_le hr (Nat.le_max_left n k)]
    exact zRun_le h (Nat.le_max_right n k)
theorem wp_post {Q : Option Value → zSt → Prop} (h : wp m pc L S σ P) (hPQ : ∀ r σ', P r σ' → Q r σ') : wp m pc L S σ Q := by
  obtain ⟨n, u, h1, h2⟩ := h
  exact ⟨n, u, h1, hPQ _ _ h2⟩
end WP
theorem wpM_post {m : Nat} {av : List Value} {σ : zSt} {P Q : Option Value → zSt → Prop} (h : wpM m av σ P) (hPQ : ∀ r σ', P r σ' → Q r σ') : wpM m av σ Q := wp_post h hPQ
end
section
theorem zLaw : zLawOK := sorry
theorem whole_start {p : Program} {e : Env} {s : State} {m : MethodId} {below : List Frame} {meth : Method} {c : Code} (l : Launch) (hflags : l.flags = flags0) {b L : Nat} {xs : Nat → Int32} (hL : L ≤ 2048) (C0 : lw_At p s m meth c b L xs) : W p l e room_1 s m #[Value.ref b] below meth c s.heap [] 0 0 (lw_Z below #[Value.ref b] s) (entryFrame m ([Value.ref b] : List Value).toArray 4) := whole_start_of zLaw l hL C0
set_option maxHeartbeats 4000000 in
theorem lw_walk (l : Launch) (hflags : l.flags = flags0) (b : Addr) (xs : List Int32) : MetFree l x (headSpec (Jvm.Cond.code x code maxLocals ret :: tables_1) room_1) (lw_P b xs) (fun _ _ _ _ _ => True) lw_Q := by
  refine MetFree.of_bodyS (code := code) (maxLocals := maxLocals) (ret := ret) (by decide) ?_ ?_
  · intro args s m h hn
    obtain ⟨meth, c, h1, h2, h3, h4, h5, h6, -, -⟩ := Cond.code_spec hn (atoms_spec (ws := Jvm.Cond.code x code maxLocals ret :: tables_1) h _ List.mem_cons_self)
    exact ⟨meth, c, h1, h2, h3, h4, h5, h6⟩
  · intro p e s m args below meth c s₁ B hml0 hP _
    obtain ⟨rfl, hx, hbd, hgv⟩ := hP
    obtain ⟨scr, harrAt, hlist, hof, hsmall⟩ := hx
    obtain ⟨hcb, hkn, -, -⟩ := State.arrayAt?_spec harrAt
    have hown : s.vm.findClass R_law = some m.cls := findClass_of_methodNamed B.named
    have hts0 : ∀ c ∈ (Jvm.Cond.code x code maxLocals ret :: tables_1), c.before #[Value.ref b] s = true := atoms_spec (ws := Jvm.Cond.code x code maxLocals ret :: tables_1) B.pre
    have hts : ∀ w ∈ lw_tbl, w.before #[Value.ref b] s = true := k2_hts_sels lw_privs (fun w hw => hts0 w (List.mem_cons_of_mem _ hw)) lw_privs_ok
    have hml : c.maxLocals = 4 := B.maxLocals_eq (hts0 _ List.mem_cons_self)
    have X₀ : Stand p l e room_1 s m #[Value.ref b] below meth c s₁ [] 0 0 := Stand.of_body B
    have hh0 : s₁.heap = s.heap := by rw [B.state]; rfl
    have hsz : scr.slots.size = xs.length := by rw [← Array.length_toList, hlist, List.length_map]
    have hval : ∀ j : Nat, j < xs.length → scr.slots[j]? = some (.int (xs.getD j 0)) := fun j hj => by
      rw [← Array.getElem?_toList, hlist]
      simp [hj]
    have hbl : b < s.heap.size := (Array.getElem?_eq_some_iff.mp hcb).1
    have hX : va_X b xs.length (fun j => xs.getD j 0) s s.heap := ⟨scr, hcb, hof, hkn, hsz, hval⟩
    have K : W p l e room_1 s m #[Value.ref b] below meth c s₁.heap [] 0 0 (lw_Z below #[Value.ref b] s) (entryFrame m ([Value.ref b] : List Value).toArray 4) := by
      rw [hh0]
      exact whole_start l hflags hbd ⟨B.exec, B.bytes, B.returns, hml, hown, hts, hX, hbl, B.notSynchronized, hgv⟩
    obtain ⟨t, a1, o, b1, b2, b3⟩ := K s₁ rfl X₀
    exact ⟨t, o, a1, b1, b2, b3⟩
theorem lw_pre_spec {args : Array Value} {s : State} (h : (Jvm.Cond.and given_1 narrow_1).before args s = true) (hr : rest_1_c.before args s = true) : ∃ (b : Addr) (xs : List Int32), lw_P b xs args s := by
  have hs := flat_of_before _ h
  have hq := flat_of_before _ hr
  have hc : (Cond.count 1).before args s = true := hs _ (by decide +kernel)
  have harr : (Cond.arrayOf (.arg 0) .int).before args s = true := hs _ (by decide +kernel)
  have hle : (Cond.le (.length (.arg 0)) (.int 2048)).before args s = true := hs _ (by decide +kernel)
  have hlen : (Cond.isInt (.length (.arg 0))).before args s = true := hq _ (by decide +kernel)
  have hall : (Cond.all (.arg 0) (.isInt (.elem (.arg 0) (.index 0)))).before args s = true := hq _ (by decide +kernel)
  obtain ⟨b, xs, hb, hx⟩ := State.ints_of_pre rfl harr hlen hall
  have hsm : xs.length < 2 ^ 31 := hx.choose_spec.2.2.2
  have hev : (Term.length (.arg 0)).eval args s none [] s = some (.int xs.length.toInt32) := hx.length_eval hb
  have hv := Cond.le_ints hev (show (Term.int 2048).eval args s none [] s = some (.int 2048) from rfl)
  have hd : xs.length.toInt32 ≤ 2048 := by
    simpa [Cond.before, Cond.holds, hv] using hle
  have hN : xs.length ≤ 2048 := (Int32.ofNat_le_ofNat hsm (by decide)).mp (show Int32.ofNat xs.length ≤ Int32.ofNat 2048 from hd)
  exact ⟨b, xs, Cond.one_arg hc (show args[0]? = some (.ref b) from hb), hx, hN, h⟩
theorem lw_comes (l : Launch) (hflags : l.flags = flags0) : Comes l x (Jvm.Cond.code x code maxLocals ret :: tables_1) room_1 (fun tb e args s => Calls_1 tb e args s ∧ rest_1 tb e args s ∧ Pre_1 tb e args s)
    (fun _ _ args s o t => lw_Q args s o t) := by
  intro p e ha hc hk s m args below hf hfit hheap happ hpre
  obtain ⟨b, xs, hP⟩ := lw_pre_spec hpre.2.2 hpre.2.1
  obtain ⟨k, o, h1, h2, h3, hQ⟩ := lw_walk l hflags b xs p e ha hc hk s m args below hf ((Spec.applies_iff_loose hf).mp happ).1 hP trivial
  exact ⟨k, o, h1, h2, h3, hQ⟩
theorem lw_frame {s t : State} {o : Outcome} {args : Array Value} (h : Framed s o t [] 600000 7302250) :
    Framed s o t (fieldLocs frame_1_writes args s ++ arrayLocs frame_1_arrays args s ++ staticLocs frame_1_statics s) 600000 7302250 := h
theorem lw_limb (L : Cond) (hL : ∀ (args : Array Value) (s t : State), L.after args s (.returned (some (.int 1))) t = true) :
    ArmFor flags0 classFile x code maxLocals ret World_1 tables_1 room_1 Calls_1 rest_1 Pre_1
      (fun tb e a s o t => postC L tb e a s o t ∧ Framed s o t (fieldLocs frame_1_writes a s ++ arrayLocs frame_1_arrays a s ++ staticLocs frame_1_statics s) 600000 7302250) := by
  intro l hflags _ _ p e ha hc hk s m args below hf hfit hheap happ hpre
  obtain ⟨k, o, h1, h2, h3, rfl, hF⟩ := lw_comes l hflags p e ha hc hk s m args below hf hfit hheap happ hpre
  exact ⟨k, _, h1, h2, h3, hL args s _, lw_frame hF⟩
theorem i_vc : Claimed_1_1 ∧ Claimed_1_2 := ⟨lw_limb limb_1_1 (fun args s t => by simp [limb_1_1, Cond.after, Cond.holds, Cond.value]), lw_limb limb_1_2 (fun args s t => Cond.after_iff.mpr (by
  first | (rw [show limb_1_2 = Cond.eq .result (.int 1) from rfl, Cond.eq_ints (x := 1) (y := 1) rfl rfl]; simp; done) | (simp [limb_1_2, Cond.value, Term.eval]; done)))⟩
end
