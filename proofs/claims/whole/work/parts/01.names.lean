-- ===== PART A: goes FIRST, ahead of the names: the tables' words, and 'selects' of the private methods out of them =====
/-- a private method of a class that the tables say can be made, by its rows of tables_1 -/
def lw_okq (q : MethodName × Nat) : Prop := (q.1.cls ≠ "java/lang/invoke/MethodHandle" ∧ q.1.cls ≠ "java/lang/invoke/VarHandle") ∧ Cond.instantiable q.1.cls q.2 ∈ tables_1 ∧ Cond.privateMethod q.1 ∈ tables_1 ∧ Cond.instanceMethod q.1 ∈ tables_1
theorem lw_p0 : lw_okq (⟨"java/util/ArrayList", "add", "(Ljava/lang/Object;[Ljava/lang/Object;I)V"⟩, 3) := ⟨⟨by decide +kernel, by decide +kernel⟩, List.mem_of_getElem? (i := 39) (by decide +kernel), List.mem_of_getElem? (i := 151) (by decide +kernel), List.mem_of_getElem? (i := 152) (by decide +kernel)⟩
theorem lw_p1 : lw_okq (⟨"java/util/ArrayList", "grow", "()[Ljava/lang/Object;"⟩, 3) := ⟨⟨by decide +kernel, by decide +kernel⟩, List.mem_of_getElem? (i := 39) (by decide +kernel), List.mem_of_getElem? (i := 155) (by decide +kernel), List.mem_of_getElem? (i := 156) (by decide +kernel)⟩
theorem lw_p2 : lw_okq (⟨"java/util/ArrayList", "grow", "(I)[Ljava/lang/Object;"⟩, 3) := ⟨⟨by decide +kernel, by decide +kernel⟩, List.mem_of_getElem? (i := 39) (by decide +kernel), List.mem_of_getElem? (i := 159) (by decide +kernel), List.mem_of_getElem? (i := 160) (by decide +kernel)⟩
theorem lw_p3 : lw_okq (⟨"java/util/ArrayList", "rangeCheckForAdd", "(I)V"⟩, 3) := ⟨⟨by decide +kernel, by decide +kernel⟩, List.mem_of_getElem? (i := 39) (by decide +kernel), List.mem_of_getElem? (i := 423) (by decide +kernel), List.mem_of_getElem? (i := 424) (by decide +kernel)⟩
theorem lw_p4 : lw_okq (⟨"BuildCache", "refusalOfSource", "(II)I"⟩, 8) := ⟨⟨by decide +kernel, by decide +kernel⟩, List.mem_of_getElem? (i := 25) (by decide +kernel), List.mem_of_getElem? (i := 444) (by decide +kernel), List.mem_of_getElem? (i := 445) (by decide +kernel)⟩
theorem lw_p5 : lw_okq (⟨"BuildCache", "refusalOfFile", "(II)I"⟩, 8) := ⟨⟨by decide +kernel, by decide +kernel⟩, List.mem_of_getElem? (i := 25) (by decide +kernel), List.mem_of_getElem? (i := 448) (by decide +kernel), List.mem_of_getElem? (i := 449) (by decide +kernel)⟩
theorem lw_p6 : lw_okq (⟨"BuildCache", "carryOut", "(II)V"⟩, 8) := ⟨⟨by decide +kernel, by decide +kernel⟩, List.mem_of_getElem? (i := 25) (by decide +kernel), List.mem_of_getElem? (i := 655) (by decide +kernel), List.mem_of_getElem? (i := 656) (by decide +kernel)⟩
theorem lw_p7 : lw_okq (⟨"BuildCache$Key", "put", "(I)V"⟩, 5) := ⟨⟨by decide +kernel, by decide +kernel⟩, List.mem_of_getElem? (i := 299) (by decide +kernel), List.mem_of_getElem? (i := 664) (by decide +kernel), List.mem_of_getElem? (i := 665) (by decide +kernel)⟩
theorem lw_p8 : lw_okq (⟨"BuildCache$Key", "putPart", "(LBuildCache$Path;I)V"⟩, 5) := ⟨⟨by decide +kernel, by decide +kernel⟩, List.mem_of_getElem? (i := 299) (by decide +kernel), List.mem_of_getElem? (i := 670) (by decide +kernel), List.mem_of_getElem? (i := 671) (by decide +kernel)⟩
theorem lw_p9 : lw_okq (⟨"BuildCache$Key", "putListed", "(LBuildCache$Path;I)V"⟩, 5) := ⟨⟨by decide +kernel, by decide +kernel⟩, List.mem_of_getElem? (i := 299) (by decide +kernel), List.mem_of_getElem? (i := 674) (by decide +kernel), List.mem_of_getElem? (i := 675) (by decide +kernel)⟩
theorem lw_p10 : lw_okq (⟨"BuildCache$Key", "putContent", "(LBuildCache$Content;)V"⟩, 5) := ⟨⟨by decide +kernel, by decide +kernel⟩, List.mem_of_getElem? (i := 299) (by decide +kernel), List.mem_of_getElem? (i := 687) (by decide +kernel), List.mem_of_getElem? (i := 688) (by decide +kernel)⟩
theorem lw_p11 : lw_okq (⟨"BuildCache$Key", "firstOther", "(LBuildCache$Key;)I"⟩, 5) := ⟨⟨by decide +kernel, by decide +kernel⟩, List.mem_of_getElem? (i := 299) (by decide +kernel), List.mem_of_getElem? (i := 699) (by decide +kernel), List.mem_of_getElem? (i := 700) (by decide +kernel)⟩
theorem lw_p12 : lw_okq (⟨"java/util/ArrayList", "fastRemove", "([Ljava/lang/Object;I)V"⟩, 3) := ⟨⟨by decide +kernel, by decide +kernel⟩, List.mem_of_getElem? (i := 39) (by decide +kernel), List.mem_of_getElem? (i := 758) (by decide +kernel), List.mem_of_getElem? (i := 759) (by decide +kernel)⟩
theorem lw_p13 : lw_okq (⟨"BuildCache$Runner", "perform", "(LBuildCache$Action;IILBuildCache$Outcome;)I"⟩, 2) := ⟨⟨by decide +kernel, by decide +kernel⟩, List.mem_of_getElem? (i := 255) (by decide +kernel), List.mem_of_getElem? (i := 790) (by decide +kernel), List.mem_of_getElem? (i := 791) (by decide +kernel)⟩
theorem lw_p14 : lw_okq (⟨"BuildCache$Runner", "readInput", "(LBuildCache$Action;II)I"⟩, 2) := ⟨⟨by decide +kernel, by decide +kernel⟩, List.mem_of_getElem? (i := 255) (by decide +kernel), List.mem_of_getElem? (i := 794) (by decide +kernel), List.mem_of_getElem? (i := 795) (by decide +kernel)⟩
theorem lw_p15 : lw_okq (⟨"BuildCache$Runner", "listInput", "(LBuildCache$Action;II)I"⟩, 2) := ⟨⟨by decide +kernel, by decide +kernel⟩, List.mem_of_getElem? (i := 255) (by decide +kernel), List.mem_of_getElem? (i := 807) (by decide +kernel), List.mem_of_getElem? (i := 808) (by decide +kernel)⟩
def lw_privs_1 : List (MethodName × Nat) := [(⟨"java/util/ArrayList", "add", "(Ljava/lang/Object;[Ljava/lang/Object;I)V"⟩, 3), (⟨"java/util/ArrayList", "grow", "()[Ljava/lang/Object;"⟩, 3), (⟨"java/util/ArrayList", "grow", "(I)[Ljava/lang/Object;"⟩, 3), (⟨"java/util/ArrayList", "rangeCheckForAdd", "(I)V"⟩, 3), (⟨"BuildCache", "refusalOfSource", "(II)I"⟩, 8), (⟨"BuildCache", "refusalOfFile", "(II)I"⟩, 8), (⟨"BuildCache", "carryOut", "(II)V"⟩, 8), (⟨"BuildCache$Key", "put", "(I)V"⟩, 5), (⟨"BuildCache$Key", "putPart", "(LBuildCache$Path;I)V"⟩, 5), (⟨"BuildCache$Key", "putListed", "(LBuildCache$Path;I)V"⟩, 5), (⟨"BuildCache$Key", "putContent", "(LBuildCache$Content;)V"⟩, 5), (⟨"BuildCache$Key", "firstOther", "(LBuildCache$Key;)I"⟩, 5), (⟨"java/util/ArrayList", "fastRemove", "([Ljava/lang/Object;I)V"⟩, 3), (⟨"BuildCache$Runner", "perform", "(LBuildCache$Action;IILBuildCache$Outcome;)I"⟩, 2), (⟨"BuildCache$Runner", "readInput", "(LBuildCache$Action;II)I"⟩, 2), (⟨"BuildCache$Runner", "listInput", "(LBuildCache$Action;II)I"⟩, 2)]
theorem lw_r1 : ∀ q ∈ lw_privs_1, lw_okq q := List.forall_mem_cons.mpr ⟨lw_p0, List.forall_mem_cons.mpr ⟨lw_p1, List.forall_mem_cons.mpr ⟨lw_p2, List.forall_mem_cons.mpr ⟨lw_p3, List.forall_mem_cons.mpr ⟨lw_p4, List.forall_mem_cons.mpr ⟨lw_p5, List.forall_mem_cons.mpr ⟨lw_p6, List.forall_mem_cons.mpr ⟨lw_p7, List.forall_mem_cons.mpr ⟨lw_p8, List.forall_mem_cons.mpr ⟨lw_p9, List.forall_mem_cons.mpr ⟨lw_p10, List.forall_mem_cons.mpr ⟨lw_p11, List.forall_mem_cons.mpr ⟨lw_p12, List.forall_mem_cons.mpr ⟨lw_p13, List.forall_mem_cons.mpr ⟨lw_p14, List.forall_mem_cons.mpr ⟨lw_p15, fun _ h => absurd h List.not_mem_nil⟩⟩⟩⟩⟩⟩⟩⟩⟩⟩⟩⟩⟩⟩⟩⟩
theorem lw_p16 : lw_okq (⟨"BuildCache$Runner", "writeOutput", "(LBuildCache$Outcome;I)I"⟩, 2) := ⟨⟨by decide +kernel, by decide +kernel⟩, List.mem_of_getElem? (i := 255) (by decide +kernel), List.mem_of_getElem? (i := 811) (by decide +kernel), List.mem_of_getElem? (i := 812) (by decide +kernel)⟩
theorem lw_p17 : lw_okq (⟨"BuildCache$Runner", "skipFor", "(LBuildCache$Action;II)I"⟩, 2) := ⟨⟨by decide +kernel, by decide +kernel⟩, List.mem_of_getElem? (i := 255) (by decide +kernel), List.mem_of_getElem? (i := 816) (by decide +kernel), List.mem_of_getElem? (i := 817) (by decide +kernel)⟩
theorem lw_p18 : lw_okq (⟨"BuildCache$Runner", "reshape", "(II)I"⟩, 2) := ⟨⟨by decide +kernel, by decide +kernel⟩, List.mem_of_getElem? (i := 255) (by decide +kernel), List.mem_of_getElem? (i := 820) (by decide +kernel), List.mem_of_getElem? (i := 821) (by decide +kernel)⟩
theorem lw_p19 : lw_okq (⟨"BuildCache$Content", "isAmongFirst", "(II)Z"⟩, 2) := ⟨⟨by decide +kernel, by decide +kernel⟩, List.mem_of_getElem? (i := 82) (by decide +kernel), List.mem_of_getElem? (i := 849) (by decide +kernel), List.mem_of_getElem? (i := 850) (by decide +kernel)⟩
theorem lw_p20 : lw_okq (⟨"BuildCacheModel", "isPath", "(I)Z"⟩, 54) := ⟨⟨by decide +kernel, by decide +kernel⟩, List.mem_of_getElem? (i := 945) (by decide +kernel), List.mem_of_getElem? (i := 1121) (by decide +kernel), List.mem_of_getElem? (i := 1122) (by decide +kernel)⟩
theorem lw_p21 : lw_okq (⟨"BuildCacheModel", "isBadFile", "(II)Z"⟩, 54) := ⟨⟨by decide +kernel, by decide +kernel⟩, List.mem_of_getElem? (i := 945) (by decide +kernel), List.mem_of_getElem? (i := 1141) (by decide +kernel), List.mem_of_getElem? (i := 1142) (by decide +kernel)⟩
theorem lw_p22 : lw_okq (⟨"BuildCacheModel", "isSource", "(I)Z"⟩, 54) := ⟨⟨by decide +kernel, by decide +kernel⟩, List.mem_of_getElem? (i := 945) (by decide +kernel), List.mem_of_getElem? (i := 1145) (by decide +kernel), List.mem_of_getElem? (i := 1146) (by decide +kernel)⟩
theorem lw_p23 : lw_okq (⟨"BuildCacheModel", "isAlike", "(III)Z"⟩, 54) := ⟨⟨by decide +kernel, by decide +kernel⟩, List.mem_of_getElem? (i := 945) (by decide +kernel), List.mem_of_getElem? (i := 1157) (by decide +kernel), List.mem_of_getElem? (i := 1158) (by decide +kernel)⟩
theorem lw_p24 : lw_okq (⟨"BuildCacheModel", "copyFile", "(III)V"⟩, 54) := ⟨⟨by decide +kernel, by decide +kernel⟩, List.mem_of_getElem? (i := 945) (by decide +kernel), List.mem_of_getElem? (i := 1161) (by decide +kernel), List.mem_of_getElem? (i := 1162) (by decide +kernel)⟩
theorem lw_p25 : lw_okq (⟨"BuildCacheModel", "isAction", "(I)Z"⟩, 54) := ⟨⟨by decide +kernel, by decide +kernel⟩, List.mem_of_getElem? (i := 945) (by decide +kernel), List.mem_of_getElem? (i := 1181) (by decide +kernel), List.mem_of_getElem? (i := 1182) (by decide +kernel)⟩
theorem lw_p26 : lw_okq (⟨"BuildCacheModel", "comesToItself", "(IIZ)Z"⟩, 54) := ⟨⟨by decide +kernel, by decide +kernel⟩, List.mem_of_getElem? (i := 945) (by decide +kernel), List.mem_of_getElem? (i := 1185) (by decide +kernel), List.mem_of_getElem? (i := 1186) (by decide +kernel)⟩
theorem lw_p27 : lw_okq (⟨"BuildCacheModel", "reach", "(I)V"⟩, 54) := ⟨⟨by decide +kernel, by decide +kernel⟩, List.mem_of_getElem? (i := 945) (by decide +kernel), List.mem_of_getElem? (i := 1189) (by decide +kernel), List.mem_of_getElem? (i := 1190) (by decide +kernel)⟩
theorem lw_p28 : lw_okq (⟨"BuildCacheModel", "isUsed", "(II)Z"⟩, 54) := ⟨⟨by decide +kernel, by decide +kernel⟩, List.mem_of_getElem? (i := 945) (by decide +kernel), List.mem_of_getElem? (i := 1193) (by decide +kernel), List.mem_of_getElem? (i := 1194) (by decide +kernel)⟩
theorem lw_p29 : lw_okq (⟨"BuildCacheModel", "isCircle", "(I)Z"⟩, 54) := ⟨⟨by decide +kernel, by decide +kernel⟩, List.mem_of_getElem? (i := 945) (by decide +kernel), List.mem_of_getElem? (i := 1197) (by decide +kernel), List.mem_of_getElem? (i := 1198) (by decide +kernel)⟩
theorem lw_p30 : lw_okq (⟨"BuildCacheModel", "layKey", "(II)V"⟩, 54) := ⟨⟨by decide +kernel, by decide +kernel⟩, List.mem_of_getElem? (i := 945) (by decide +kernel), List.mem_of_getElem? (i := 1225) (by decide +kernel), List.mem_of_getElem? (i := 1226) (by decide +kernel)⟩
theorem lw_p31 : lw_okq (⟨"BuildCacheModel", "mixHead", "(I)V"⟩, 54) := ⟨⟨by decide +kernel, by decide +kernel⟩, List.mem_of_getElem? (i := 945) (by decide +kernel), List.mem_of_getElem? (i := 1229) (by decide +kernel), List.mem_of_getElem? (i := 1230) (by decide +kernel)⟩
def lw_privs_2 : List (MethodName × Nat) := [(⟨"BuildCache$Runner", "writeOutput", "(LBuildCache$Outcome;I)I"⟩, 2), (⟨"BuildCache$Runner", "skipFor", "(LBuildCache$Action;II)I"⟩, 2), (⟨"BuildCache$Runner", "reshape", "(II)I"⟩, 2), (⟨"BuildCache$Content", "isAmongFirst", "(II)Z"⟩, 2), (⟨"BuildCacheModel", "isPath", "(I)Z"⟩, 54), (⟨"BuildCacheModel", "isBadFile", "(II)Z"⟩, 54), (⟨"BuildCacheModel", "isSource", "(I)Z"⟩, 54), (⟨"BuildCacheModel", "isAlike", "(III)Z"⟩, 54), (⟨"BuildCacheModel", "copyFile", "(III)V"⟩, 54), (⟨"BuildCacheModel", "isAction", "(I)Z"⟩, 54), (⟨"BuildCacheModel", "comesToItself", "(IIZ)Z"⟩, 54), (⟨"BuildCacheModel", "reach", "(I)V"⟩, 54), (⟨"BuildCacheModel", "isUsed", "(II)Z"⟩, 54), (⟨"BuildCacheModel", "isCircle", "(I)Z"⟩, 54), (⟨"BuildCacheModel", "layKey", "(II)V"⟩, 54), (⟨"BuildCacheModel", "mixHead", "(I)V"⟩, 54)]
theorem lw_r2 : ∀ q ∈ lw_privs_2, lw_okq q := List.forall_mem_cons.mpr ⟨lw_p16, List.forall_mem_cons.mpr ⟨lw_p17, List.forall_mem_cons.mpr ⟨lw_p18, List.forall_mem_cons.mpr ⟨lw_p19, List.forall_mem_cons.mpr ⟨lw_p20, List.forall_mem_cons.mpr ⟨lw_p21, List.forall_mem_cons.mpr ⟨lw_p22, List.forall_mem_cons.mpr ⟨lw_p23, List.forall_mem_cons.mpr ⟨lw_p24, List.forall_mem_cons.mpr ⟨lw_p25, List.forall_mem_cons.mpr ⟨lw_p26, List.forall_mem_cons.mpr ⟨lw_p27, List.forall_mem_cons.mpr ⟨lw_p28, List.forall_mem_cons.mpr ⟨lw_p29, List.forall_mem_cons.mpr ⟨lw_p30, List.forall_mem_cons.mpr ⟨lw_p31, fun _ h => absurd h List.not_mem_nil⟩⟩⟩⟩⟩⟩⟩⟩⟩⟩⟩⟩⟩⟩⟩⟩
theorem lw_p32 : lw_okq (⟨"BuildCacheModel", "mix", "(I)V"⟩, 54) := ⟨⟨by decide +kernel, by decide +kernel⟩, List.mem_of_getElem? (i := 945) (by decide +kernel), List.mem_of_getElem? (i := 1233) (by decide +kernel), List.mem_of_getElem? (i := 1234) (by decide +kernel)⟩
theorem lw_p33 : lw_okq (⟨"BuildCacheModel", "mixPart", "(II)V"⟩, 54) := ⟨⟨by decide +kernel, by decide +kernel⟩, List.mem_of_getElem? (i := 945) (by decide +kernel), List.mem_of_getElem? (i := 1237) (by decide +kernel), List.mem_of_getElem? (i := 1238) (by decide +kernel)⟩
theorem lw_p34 : lw_okq (⟨"BuildCacheModel", "list", "(II)V"⟩, 54) := ⟨⟨by decide +kernel, by decide +kernel⟩, List.mem_of_getElem? (i := 945) (by decide +kernel), List.mem_of_getElem? (i := 1241) (by decide +kernel), List.mem_of_getElem? (i := 1242) (by decide +kernel)⟩
theorem lw_p35 : lw_okq (⟨"BuildCacheModel", "changedOf", "(II)I"⟩, 54) := ⟨⟨by decide +kernel, by decide +kernel⟩, List.mem_of_getElem? (i := 945) (by decide +kernel), List.mem_of_getElem? (i := 1254) (by decide +kernel), List.mem_of_getElem? (i := 1255) (by decide +kernel)⟩
theorem lw_p36 : lw_okq (⟨"BuildCacheModel", "isRow", "(II[III)Z"⟩, 54) := ⟨⟨by decide +kernel, by decide +kernel⟩, List.mem_of_getElem? (i := 945) (by decide +kernel), List.mem_of_getElem? (i := 1258) (by decide +kernel), List.mem_of_getElem? (i := 1259) (by decide +kernel)⟩
theorem lw_p37 : lw_okq (⟨"BuildCacheModel", "need", "(I)V"⟩, 54) := ⟨⟨by decide +kernel, by decide +kernel⟩, List.mem_of_getElem? (i := 945) (by decide +kernel), List.mem_of_getElem? (i := 1266) (by decide +kernel), List.mem_of_getElem? (i := 1267) (by decide +kernel)⟩
theorem lw_p38 : lw_okq (⟨"BuildCacheModel", "next", "()I"⟩, 54) := ⟨⟨by decide +kernel, by decide +kernel⟩, List.mem_of_getElem? (i := 945) (by decide +kernel), List.mem_of_getElem? (i := 1270) (by decide +kernel), List.mem_of_getElem? (i := 1271) (by decide +kernel)⟩
theorem lw_p39 : lw_okq (⟨"BuildCacheModel", "does", "(II)V"⟩, 54) := ⟨⟨by decide +kernel, by decide +kernel⟩, List.mem_of_getElem? (i := 945) (by decide +kernel), List.mem_of_getElem? (i := 1274) (by decide +kernel), List.mem_of_getElem? (i := 1275) (by decide +kernel)⟩
theorem lw_p40 : lw_okq (⟨"BuildCacheModel", "note", "(II)V"⟩, 54) := ⟨⟨by decide +kernel, by decide +kernel⟩, List.mem_of_getElem? (i := 945) (by decide +kernel), List.mem_of_getElem? (i := 1278) (by decide +kernel), List.mem_of_getElem? (i := 1279) (by decide +kernel)⟩
theorem lw_p41 : lw_okq (⟨"BuildCacheModel", "placeOf", "()I"⟩, 54) := ⟨⟨by decide +kernel, by decide +kernel⟩, List.mem_of_getElem? (i := 945) (by decide +kernel), List.mem_of_getElem? (i := 1282) (by decide +kernel), List.mem_of_getElem? (i := 1283) (by decide +kernel)⟩
theorem lw_p42 : lw_okq (⟨"BuildCacheModel", "play", "(II)V"⟩, 54) := ⟨⟨by decide +kernel, by decide +kernel⟩, List.mem_of_getElem? (i := 945) (by decide +kernel), List.mem_of_getElem? (i := 1286) (by decide +kernel), List.mem_of_getElem? (i := 1287) (by decide +kernel)⟩
theorem lw_p43 : lw_okq (⟨"BuildCacheModel", "writeOut", "(I)V"⟩, 54) := ⟨⟨by decide +kernel, by decide +kernel⟩, List.mem_of_getElem? (i := 945) (by decide +kernel), List.mem_of_getElem? (i := 1290) (by decide +kernel), List.mem_of_getElem? (i := 1291) (by decide +kernel)⟩
theorem lw_p44 : lw_okq (⟨"BuildCacheModel", "alone", "(II)V"⟩, 54) := ⟨⟨by decide +kernel, by decide +kernel⟩, List.mem_of_getElem? (i := 945) (by decide +kernel), List.mem_of_getElem? (i := 1294) (by decide +kernel), List.mem_of_getElem? (i := 1295) (by decide +kernel)⟩
theorem lw_p45 : lw_okq (⟨"BuildCacheModel", "add", "(I)V"⟩, 54) := ⟨⟨by decide +kernel, by decide +kernel⟩, List.mem_of_getElem? (i := 945) (by decide +kernel), List.mem_of_getElem? (i := 1298) (by decide +kernel), List.mem_of_getElem? (i := 1299) (by decide +kernel)⟩
theorem lw_p46 : lw_okq (⟨"BuildCacheModel", "turn", "()V"⟩, 54) := ⟨⟨by decide +kernel, by decide +kernel⟩, List.mem_of_getElem? (i := 945) (by decide +kernel), List.mem_of_getElem? (i := 1302) (by decide +kernel), List.mem_of_getElem? (i := 1303) (by decide +kernel)⟩
theorem lw_p47 : lw_okq (⟨"BuildCacheModel", "sort", "()V"⟩, 54) := ⟨⟨by decide +kernel, by decide +kernel⟩, List.mem_of_getElem? (i := 945) (by decide +kernel), List.mem_of_getElem? (i := 1306) (by decide +kernel), List.mem_of_getElem? (i := 1307) (by decide +kernel)⟩
def lw_privs_3 : List (MethodName × Nat) := [(⟨"BuildCacheModel", "mix", "(I)V"⟩, 54), (⟨"BuildCacheModel", "mixPart", "(II)V"⟩, 54), (⟨"BuildCacheModel", "list", "(II)V"⟩, 54), (⟨"BuildCacheModel", "changedOf", "(II)I"⟩, 54), (⟨"BuildCacheModel", "isRow", "(II[III)Z"⟩, 54), (⟨"BuildCacheModel", "need", "(I)V"⟩, 54), (⟨"BuildCacheModel", "next", "()I"⟩, 54), (⟨"BuildCacheModel", "does", "(II)V"⟩, 54), (⟨"BuildCacheModel", "note", "(II)V"⟩, 54), (⟨"BuildCacheModel", "placeOf", "()I"⟩, 54), (⟨"BuildCacheModel", "play", "(II)V"⟩, 54), (⟨"BuildCacheModel", "writeOut", "(I)V"⟩, 54), (⟨"BuildCacheModel", "alone", "(II)V"⟩, 54), (⟨"BuildCacheModel", "add", "(I)V"⟩, 54), (⟨"BuildCacheModel", "turn", "()V"⟩, 54), (⟨"BuildCacheModel", "sort", "()V"⟩, 54)]
theorem lw_r3 : ∀ q ∈ lw_privs_3, lw_okq q := List.forall_mem_cons.mpr ⟨lw_p32, List.forall_mem_cons.mpr ⟨lw_p33, List.forall_mem_cons.mpr ⟨lw_p34, List.forall_mem_cons.mpr ⟨lw_p35, List.forall_mem_cons.mpr ⟨lw_p36, List.forall_mem_cons.mpr ⟨lw_p37, List.forall_mem_cons.mpr ⟨lw_p38, List.forall_mem_cons.mpr ⟨lw_p39, List.forall_mem_cons.mpr ⟨lw_p40, List.forall_mem_cons.mpr ⟨lw_p41, List.forall_mem_cons.mpr ⟨lw_p42, List.forall_mem_cons.mpr ⟨lw_p43, List.forall_mem_cons.mpr ⟨lw_p44, List.forall_mem_cons.mpr ⟨lw_p45, List.forall_mem_cons.mpr ⟨lw_p46, List.forall_mem_cons.mpr ⟨lw_p47, fun _ h => absurd h List.not_mem_nil⟩⟩⟩⟩⟩⟩⟩⟩⟩⟩⟩⟩⟩⟩⟩⟩
theorem lw_p48 : lw_okq (⟨"BuildCacheModel", "figures", "(I)V"⟩, 54) := ⟨⟨by decide +kernel, by decide +kernel⟩, List.mem_of_getElem? (i := 945) (by decide +kernel), List.mem_of_getElem? (i := 1310) (by decide +kernel), List.mem_of_getElem? (i := 1311) (by decide +kernel)⟩
theorem lw_p49 : lw_okq (⟨"BuildCacheModel", "sum", "()I"⟩, 54) := ⟨⟨by decide +kernel, by decide +kernel⟩, List.mem_of_getElem? (i := 945) (by decide +kernel), List.mem_of_getElem? (i := 1314) (by decide +kernel), List.mem_of_getElem? (i := 1315) (by decide +kernel)⟩
theorem lw_p50 : lw_okq (⟨"BuildCacheModel", "once", "()V"⟩, 54) := ⟨⟨by decide +kernel, by decide +kernel⟩, List.mem_of_getElem? (i := 945) (by decide +kernel), List.mem_of_getElem? (i := 1318) (by decide +kernel), List.mem_of_getElem? (i := 1319) (by decide +kernel)⟩
theorem lw_p51 : lw_okq (⟨"BuildCacheModel", "mixWith", "(I)V"⟩, 54) := ⟨⟨by decide +kernel, by decide +kernel⟩, List.mem_of_getElem? (i := 945) (by decide +kernel), List.mem_of_getElem? (i := 1322) (by decide +kernel), List.mem_of_getElem? (i := 1323) (by decide +kernel)⟩
theorem lw_p52 : lw_okq (⟨"BuildCacheModel", "twice", "()V"⟩, 54) := ⟨⟨by decide +kernel, by decide +kernel⟩, List.mem_of_getElem? (i := 945) (by decide +kernel), List.mem_of_getElem? (i := 1326) (by decide +kernel), List.mem_of_getElem? (i := 1327) (by decide +kernel)⟩
theorem lw_p53 : lw_okq (⟨"BuildCacheModel", "read", "(II)V"⟩, 54) := ⟨⟨by decide +kernel, by decide +kernel⟩, List.mem_of_getElem? (i := 945) (by decide +kernel), List.mem_of_getElem? (i := 1330) (by decide +kernel), List.mem_of_getElem? (i := 1331) (by decide +kernel)⟩
theorem lw_p54 : lw_okq (⟨"BuildCacheModel", "listIn", "(II)V"⟩, 54) := ⟨⟨by decide +kernel, by decide +kernel⟩, List.mem_of_getElem? (i := 945) (by decide +kernel), List.mem_of_getElem? (i := 1334) (by decide +kernel), List.mem_of_getElem? (i := 1335) (by decide +kernel)⟩
theorem lw_p55 : lw_okq (⟨"BuildCacheModel", "enter", "(I)V"⟩, 54) := ⟨⟨by decide +kernel, by decide +kernel⟩, List.mem_of_getElem? (i := 945) (by decide +kernel), List.mem_of_getElem? (i := 1338) (by decide +kernel), List.mem_of_getElem? (i := 1339) (by decide +kernel)⟩
theorem lw_p56 : lw_okq (⟨"BuildCacheModel", "trim", "(I)I"⟩, 54) := ⟨⟨by decide +kernel, by decide +kernel⟩, List.mem_of_getElem? (i := 945) (by decide +kernel), List.mem_of_getElem? (i := 1342) (by decide +kernel), List.mem_of_getElem? (i := 1343) (by decide +kernel)⟩
theorem lw_p57 : lw_okq (⟨"BuildCacheModel", "sizes", "()I"⟩, 54) := ⟨⟨by decide +kernel, by decide +kernel⟩, List.mem_of_getElem? (i := 945) (by decide +kernel), List.mem_of_getElem? (i := 1346) (by decide +kernel), List.mem_of_getElem? (i := 1347) (by decide +kernel)⟩
theorem lw_p58 : lw_okq (⟨"BuildCacheModel", "takeOut", "(I)V"⟩, 54) := ⟨⟨by decide +kernel, by decide +kernel⟩, List.mem_of_getElem? (i := 945) (by decide +kernel), List.mem_of_getElem? (i := 1350) (by decide +kernel), List.mem_of_getElem? (i := 1351) (by decide +kernel)⟩
theorem lw_p59 : lw_okq (⟨"BuildCacheModel", "use", "(I)V"⟩, 54) := ⟨⟨by decide +kernel, by decide +kernel⟩, List.mem_of_getElem? (i := 945) (by decide +kernel), List.mem_of_getElem? (i := 1354) (by decide +kernel), List.mem_of_getElem? (i := 1355) (by decide +kernel)⟩
theorem lw_p60 : lw_okq (⟨"BuildCacheModel", "lay", "(II)V"⟩, 54) := ⟨⟨by decide +kernel, by decide +kernel⟩, List.mem_of_getElem? (i := 945) (by decide +kernel), List.mem_of_getElem? (i := 1358) (by decide +kernel), List.mem_of_getElem? (i := 1359) (by decide +kernel)⟩
def lw_privs_4 : List (MethodName × Nat) := [(⟨"BuildCacheModel", "figures", "(I)V"⟩, 54), (⟨"BuildCacheModel", "sum", "()I"⟩, 54), (⟨"BuildCacheModel", "once", "()V"⟩, 54), (⟨"BuildCacheModel", "mixWith", "(I)V"⟩, 54), (⟨"BuildCacheModel", "twice", "()V"⟩, 54), (⟨"BuildCacheModel", "read", "(II)V"⟩, 54), (⟨"BuildCacheModel", "listIn", "(II)V"⟩, 54), (⟨"BuildCacheModel", "enter", "(I)V"⟩, 54), (⟨"BuildCacheModel", "trim", "(I)I"⟩, 54), (⟨"BuildCacheModel", "sizes", "()I"⟩, 54), (⟨"BuildCacheModel", "takeOut", "(I)V"⟩, 54), (⟨"BuildCacheModel", "use", "(I)V"⟩, 54), (⟨"BuildCacheModel", "lay", "(II)V"⟩, 54)]
theorem lw_r4 : ∀ q ∈ lw_privs_4, lw_okq q := List.forall_mem_cons.mpr ⟨lw_p48, List.forall_mem_cons.mpr ⟨lw_p49, List.forall_mem_cons.mpr ⟨lw_p50, List.forall_mem_cons.mpr ⟨lw_p51, List.forall_mem_cons.mpr ⟨lw_p52, List.forall_mem_cons.mpr ⟨lw_p53, List.forall_mem_cons.mpr ⟨lw_p54, List.forall_mem_cons.mpr ⟨lw_p55, List.forall_mem_cons.mpr ⟨lw_p56, List.forall_mem_cons.mpr ⟨lw_p57, List.forall_mem_cons.mpr ⟨lw_p58, List.forall_mem_cons.mpr ⟨lw_p59, List.forall_mem_cons.mpr ⟨lw_p60, fun _ h => absurd h List.not_mem_nil⟩⟩⟩⟩⟩⟩⟩⟩⟩⟩⟩⟩⟩
def lw_privs : List (MethodName × Nat) := lw_privs_1 ++ (lw_privs_2 ++ (lw_privs_3 ++ (lw_privs_4)))
def lw_tbl : List Cond := k2_sels lw_privs ++ tables_1
theorem lw_privs_ok : ∀ q ∈ lw_privs, lw_okq q := by
  show ∀ q ∈ lw_privs_1 ++ (lw_privs_2 ++ (lw_privs_3 ++ (lw_privs_4))), lw_okq q
  exact List.forall_mem_append.mpr ⟨lw_r1, List.forall_mem_append.mpr ⟨lw_r2, List.forall_mem_append.mpr ⟨lw_r3, lw_r4⟩⟩⟩
-- ===== end of PART A; then your names; then what follows =====
def RX0 : String := "BuildCache$Action"
def TX0 : u_T := fun k => match k with
  | 0 => ("BuildCache$Action", "inputs", "Ljava/util/ArrayList;", true)
  | 1 => ("BuildCache$Action", "outputs", "Ljava/util/ArrayList;", true)
  | 2 => ("BuildCache$Action", "numbers", "[I", true)
  | 3 => ("BuildCache$Action", "values", "[I", true)
  | 4 => ("BuildCache$Action", "latest", "[LBuildCache$Key;", true)
  | 5 => ("BuildCache$Action", "steps", "I", false)
  | _ => ("BuildCache$Action", "used", "J", false)
def tyX0 : Nat → FieldType := fun k => match k with
  | 0 => .object "java/util/ArrayList"
  | 1 => .object "java/util/ArrayList"
  | 2 => .array .int
  | 3 => .array .int
  | 4 => .array (.object "BuildCache$Key")
  | 5 => .int
  | _ => .long
theorem nmX0 : ∀ a, a < 7 → ∀ b, b < 7 → a ≠ b → (TX0 a).2.1 ≠ (TX0 b).2.1 := by decide +kernel
theorem tyX0_ok : ∀ k, k < 7 → parseFieldDescriptor (TX0 k).2.2.1 = some (tyX0 k) := by decide +kernel
abbrev cX0_init : ByteArray := prog_2_method_1_code
def yX0_init : MethodName := ⟨RX0, "<init>", "()V"⟩
abbrev cX0_hasInput : ByteArray := prog_2_method_2_code
def yX0_hasInput : MethodName := ⟨RX0, "hasInput", "(I)Z"⟩
abbrev cX0_addStep : ByteArray := prog_2_method_3_code
def yX0_addStep : MethodName := ⟨RX0, "addStep", "(II)I"⟩
abbrev cX0_strip : ByteArray := prog_2_method_4_code
def yX0_strip : MethodName := ⟨RX0, "strip", "()I"⟩
abbrev cX0_takeOutcome : ByteArray := prog_2_method_5_code
def yX0_takeOutcome : MethodName := ⟨RX0, "takeOutcome", "(LBuildCache$Outcome;I)V"⟩
abbrev cX0_hasOutcome : ByteArray := prog_2_method_6_code
def yX0_hasOutcome : MethodName := ⟨RX0, "hasOutcome", "(LBuildCache$Outcome;I)Z"⟩
def RX1 : String := "BuildCache$Cache"
def TX1 : u_T := fun k => match k with
  | 0 => ("BuildCache$Cache", "row", "Ljava/util/ArrayList;", true)
  | 1 => ("BuildCache$Cache", "spare", "Ljava/util/ArrayList;", true)
  | 2 => ("BuildCache$Cache", "capacity", "I", false)
  | 3 => ("BuildCache$Cache", "sizes", "I", false)
  | _ => ("BuildCache$Cache", "evicted", "I", false)
def tyX1 : Nat → FieldType := fun k => match k with
  | 0 => .object "java/util/ArrayList"
  | 1 => .object "java/util/ArrayList"
  | 2 => .int
  | 3 => .int
  | _ => .int
theorem nmX1 : ∀ a, a < 5 → ∀ b, b < 5 → a ≠ b → (TX1 a).2.1 ≠ (TX1 b).2.1 := by decide +kernel
theorem tyX1_ok : ∀ k, k < 5 → parseFieldDescriptor (TX1 k).2.2.1 = some (tyX1 k) := by decide +kernel
abbrev cX1_init : ByteArray := prog_3_method_1_code
def yX1_init : MethodName := ⟨RX1, "<init>", "()V"⟩
abbrev cX1_reset : ByteArray := prog_3_method_2_code
def yX1_reset : MethodName := ⟨RX1, "reset", "()V"⟩
abbrev cX1_find : ByteArray := prog_3_method_3_code
def yX1_find : MethodName := ⟨RX1, "find", "(LBuildCache$Key;)I"⟩
abbrev cX1_use : ByteArray := prog_3_method_4_code
def yX1_use : MethodName := ⟨RX1, "use", "(I)LBuildCache$Entry;"⟩
abbrev cX1_unused : ByteArray := prog_3_method_5_code
def yX1_unused : MethodName := ⟨RX1, "unused", "(LBuildCache$Key;)LBuildCache$Entry;"⟩
abbrev cX1_add : ByteArray := prog_3_method_6_code
def yX1_add : MethodName := ⟨RX1, "add", "(LBuildCache$Entry;)V"⟩
abbrev cX1_evictExcess : ByteArray := prog_3_method_7_code
def yX1_evictExcess : MethodName := ⟨RX1, "evictExcess", "()I"⟩
abbrev cX1_dropAll : ByteArray := prog_3_method_8_code
def yX1_dropAll : MethodName := ⟨RX1, "dropAll", "()I"⟩
def RX2 : String := "BuildCache$Content"
def TX2 : u_T := fun k => match k with
  | 0 => ("BuildCache$Content", "bytes", "[I", true)
  | _ => ("BuildCache$Content", "size", "I", false)
def tyX2 : Nat → FieldType := fun k => match k with
  | 0 => .array .int
  | _ => .int
theorem nmX2 : ∀ a, a < 2 → ∀ b, b < 2 → a ≠ b → (TX2 a).2.1 ≠ (TX2 b).2.1 := by decide +kernel
theorem tyX2_ok : ∀ k, k < 2 → parseFieldDescriptor (TX2 k).2.2.1 = some (tyX2 k) := by decide +kernel
abbrev cX2_init : ByteArray := prog_4_method_1_code
def yX2_init : MethodName := ⟨RX2, "<init>", "()V"⟩
abbrev cX2_isAbsent : ByteArray := prog_4_method_2_code
def yX2_isAbsent : MethodName := ⟨RX2, "isAbsent", "()Z"⟩
abbrev cX2_append : ByteArray := prog_4_method_3_code
def yX2_append : MethodName := ⟨RX2, "append", "(I)Z"⟩
abbrev cX2_appendAll : ByteArray := prog_4_method_4_code
def yX2_appendAll : MethodName := ⟨RX2, "appendAll", "(LBuildCache$Content;)Z"⟩
abbrev cX2_become : ByteArray := prog_4_method_5_code
def yX2_become : MethodName := ⟨RX2, "become", "(LBuildCache$Content;)V"⟩
abbrev cX2_sameAs : ByteArray := prog_4_method_6_code
def yX2_sameAs : MethodName := ⟨RX2, "sameAs", "(LBuildCache$Content;)Z"⟩
abbrev cX2_turn : ByteArray := prog_4_method_7_code
def yX2_turn : MethodName := ⟨RX2, "turn", "()V"⟩
abbrev cX2_sort : ByteArray := prog_4_method_8_code
def yX2_sort : MethodName := ⟨RX2, "sort", "()V"⟩
abbrev cX2_sum : ByteArray := prog_4_method_9_code
def yX2_sum : MethodName := ⟨RX2, "sum", "()I"⟩
abbrev cX2_becomeFigures : ByteArray := prog_4_method_10_code
def yX2_becomeFigures : MethodName := ⟨RX2, "becomeFigures", "(I)V"⟩
abbrev cX2_cut : ByteArray := prog_4_method_11_code
def yX2_cut : MethodName := ⟨RX2, "cut", "(I)V"⟩
abbrev cX2_keepFirstOnes : ByteArray := prog_4_method_12_code
def yX2_keepFirstOnes : MethodName := ⟨RX2, "keepFirstOnes", "()V"⟩
abbrev cX2_isAmongFirst : ByteArray := prog_4_method_13_code
def yX2_isAmongFirst : MethodName := ⟨RX2, "isAmongFirst", "(II)Z"⟩
abbrev cX2_mix : ByteArray := prog_4_method_14_code
def yX2_mix : MethodName := ⟨RX2, "mix", "(I)V"⟩
def RX3 : String := "BuildCache$Entry"
def TX3 : u_T := fun k => match k with
  | 0 => ("BuildCache$Entry", "key", "LBuildCache$Key;", true)
  | 1 => ("BuildCache$Entry", "outcome", "LBuildCache$Outcome;", true)
  | 2 => ("BuildCache$Entry", "sign", "J", false)
  | _ => ("BuildCache$Entry", "found", "I", false)
def tyX3 : Nat → FieldType := fun k => match k with
  | 0 => .object "BuildCache$Key"
  | 1 => .object "BuildCache$Outcome"
  | 2 => .long
  | _ => .int
theorem nmX3 : ∀ a, a < 4 → ∀ b, b < 4 → a ≠ b → (TX3 a).2.1 ≠ (TX3 b).2.1 := by decide +kernel
theorem tyX3_ok : ∀ k, k < 4 → parseFieldDescriptor (TX3 k).2.2.1 = some (tyX3 k) := by decide +kernel
abbrev cX3_init : ByteArray := prog_5_method_1_code
def yX3_init : MethodName := ⟨RX3, "<init>", "()V"⟩
abbrev cX3_begin : ByteArray := prog_5_method_2_code
def yX3_begin : MethodName := ⟨RX3, "begin", "(LBuildCache$Key;)V"⟩
def RX4 : String := "BuildCache$Graph"
def TX4 : u_T := fun k => match k with
  | _ => ("BuildCache$Graph", "actions", "Ljava/util/ArrayList;", true)
def tyX4 : Nat → FieldType := fun k => match k with
  | _ => .object "java/util/ArrayList"
theorem nmX4 : ∀ a, a < 1 → ∀ b, b < 1 → a ≠ b → (TX4 a).2.1 ≠ (TX4 b).2.1 := by decide +kernel
theorem tyX4_ok : ∀ k, k < 1 → parseFieldDescriptor (TX4 k).2.2.1 = some (tyX4 k) := by decide +kernel
abbrev cX4_init : ByteArray := prog_6_method_1_code
def yX4_init : MethodName := ⟨RX4, "<init>", "()V"⟩
abbrev cX4_size : ByteArray := prog_6_method_2_code
def yX4_size : MethodName := ⟨RX4, "size", "()I"⟩
abbrev cX4_has : ByteArray := prog_6_method_3_code
def yX4_has : MethodName := ⟨RX4, "has", "(I)Z"⟩
abbrev cX4_at : ByteArray := prog_6_method_4_code
def yX4_at : MethodName := ⟨RX4, "at", "(I)LBuildCache$Action;"⟩
abbrev cX4_add : ByteArray := prog_6_method_5_code
def yX4_add : MethodName := ⟨RX4, "add", "()I"⟩
abbrev cX4_all : ByteArray := prog_6_method_6_code
def yX4_all : MethodName := ⟨RX4, "all", "()J"⟩
abbrev cX4_renewUses : ByteArray := prog_6_method_7_code
def yX4_renewUses : MethodName := ⟨RX4, "renewUses", "()V"⟩
abbrev cX4_withAllUsed : ByteArray := prog_6_method_8_code
def yX4_withAllUsed : MethodName := ⟨RX4, "withAllUsed", "(J)J"⟩
abbrev cX4_wouldCircleByInput : ByteArray := prog_6_method_9_code
def yX4_wouldCircleByInput : MethodName := ⟨RX4, "wouldCircleByInput", "(ILBuildCache$Path;)Z"⟩
abbrev cX4_wouldCircleByOutput : ByteArray := prog_6_method_10_code
def yX4_wouldCircleByOutput : MethodName := ⟨RX4, "wouldCircleByOutput", "(ILBuildCache$Path;)Z"⟩
abbrev cX4_leastReady : ByteArray := prog_6_method_11_code
def yX4_leastReady : MethodName := ⟨RX4, "leastReady", "(J)I"⟩
def RX5 : String := "BuildCache$Key"
def TX5 : u_T := fun k => match k with
  | 0 => ("BuildCache$Key", "numbers", "[I", true)
  | 1 => ("BuildCache$Key", "ends", "[I", true)
  | 2 => ("BuildCache$Key", "size", "I", false)
  | 3 => ("BuildCache$Key", "parts", "I", false)
  | _ => ("BuildCache$Key", "head", "I", false)
def tyX5 : Nat → FieldType := fun k => match k with
  | 0 => .array .int
  | 1 => .array .int
  | 2 => .int
  | 3 => .int
  | _ => .int
theorem nmX5 : ∀ a, a < 5 → ∀ b, b < 5 → a ≠ b → (TX5 a).2.1 ≠ (TX5 b).2.1 := by decide +kernel
theorem tyX5_ok : ∀ k, k < 5 → parseFieldDescriptor (TX5 k).2.2.1 = some (tyX5 k) := by decide +kernel
abbrev cX5_init : ByteArray := prog_7_method_1_code
def yX5_init : MethodName := ⟨RX5, "<init>", "()V"⟩
abbrev cX5_describe : ByteArray := prog_7_method_2_code
def yX5_describe : MethodName := ⟨RX5, "describe", "(LBuildCache$Action;I)V"⟩
abbrev cX5_putPart : ByteArray := prog_7_method_3_code
def yX5_putPart : MethodName := ⟨RX5, "putPart", "(LBuildCache$Path;I)V"⟩
abbrev cX5_putListed : ByteArray := prog_7_method_4_code
def yX5_putListed : MethodName := ⟨RX5, "putListed", "(LBuildCache$Path;I)V"⟩
abbrev cX5_putContent : ByteArray := prog_7_method_5_code
def yX5_putContent : MethodName := ⟨RX5, "putContent", "(LBuildCache$Content;)V"⟩
abbrev cX5_put : ByteArray := prog_7_method_6_code
def yX5_put : MethodName := ⟨RX5, "put", "(I)V"⟩
abbrev cX5_become : ByteArray := prog_7_method_7_code
def yX5_become : MethodName := ⟨RX5, "become", "(LBuildCache$Key;)V"⟩
abbrev cX5_sign : ByteArray := prog_7_method_8_code
def yX5_sign : MethodName := ⟨RX5, "sign", "()J"⟩
abbrev cX5_sameAs : ByteArray := prog_7_method_9_code
def yX5_sameAs : MethodName := ⟨RX5, "sameAs", "(LBuildCache$Key;)Z"⟩
abbrev cX5_firstOther : ByteArray := prog_7_method_10_code
def yX5_firstOther : MethodName := ⟨RX5, "firstOther", "(LBuildCache$Key;)I"⟩
abbrev cX5_changeSince : ByteArray := prog_7_method_11_code
def yX5_changeSince : MethodName := ⟨RX5, "changeSince", "(LBuildCache$Key;)I"⟩
def RX6 : String := "BuildCache$Log"
def TX6 : u_T := fun k => match k with
  | 0 => ("BuildCache$Log", "deeds", "[[I", true)
  | 1 => ("BuildCache$Log", "size", "I", false)
  | 2 => ("BuildCache$Log", "ran", "I", false)
  | 3 => ("BuildCache$Log", "found", "I", false)
  | _ => ("BuildCache$Log", "builds", "I", false)
def tyX6 : Nat → FieldType := fun k => match k with
  | 0 => .array (.array .int)
  | 1 => .int
  | 2 => .int
  | 3 => .int
  | _ => .int
theorem nmX6 : ∀ a, a < 5 → ∀ b, b < 5 → a ≠ b → (TX6 a).2.1 ≠ (TX6 b).2.1 := by decide +kernel
theorem tyX6_ok : ∀ k, k < 5 → parseFieldDescriptor (TX6 k).2.2.1 = some (tyX6 k) := by decide +kernel
abbrev cX6_init : ByteArray := prog_8_method_1_code
def yX6_init : MethodName := ⟨RX6, "<init>", "()V"⟩
abbrev cX6_reset : ByteArray := prog_8_method_2_code
def yX6_reset : MethodName := ⟨RX6, "reset", "()V"⟩
abbrev cX6_begin : ByteArray := prog_8_method_3_code
def yX6_begin : MethodName := ⟨RX6, "begin", "()V"⟩
abbrev cX6_add : ByteArray := prog_8_method_4_code
def yX6_add : MethodName := ⟨RX6, "add", "(IZII)V"⟩
def RX7 : String := "BuildCache$Outcome"
def TX7 : u_T := fun k => match k with
  | 0 => ("BuildCache$Outcome", "contents", "[LBuildCache$Content;", true)
  | 1 => ("BuildCache$Outcome", "outputs", "I", false)
  | _ => ("BuildCache$Outcome", "failure", "I", false)
def tyX7 : Nat → FieldType := fun k => match k with
  | 0 => .array (.object "BuildCache$Content")
  | 1 => .int
  | _ => .int
theorem nmX7 : ∀ a, a < 3 → ∀ b, b < 3 → a ≠ b → (TX7 a).2.1 ≠ (TX7 b).2.1 := by decide +kernel
theorem tyX7_ok : ∀ k, k < 3 → parseFieldDescriptor (TX7 k).2.2.1 = some (tyX7 k) := by decide +kernel
abbrev cX7_init : ByteArray := prog_9_method_1_code
def yX7_init : MethodName := ⟨RX7, "<init>", "()V"⟩
abbrev cX7_begin : ByteArray := prog_9_method_2_code
def yX7_begin : MethodName := ⟨RX7, "begin", "(I)V"⟩
abbrev cX7_fail : ByteArray := prog_9_method_3_code
def yX7_fail : MethodName := ⟨RX7, "fail", "(I)V"⟩
abbrev cX7_size : ByteArray := prog_9_method_4_code
def yX7_size : MethodName := ⟨RX7, "size", "()I"⟩
def RX8 : String := "BuildCache$Path"
def TX8 : u_T := fun k => match k with
  | 0 => ("BuildCache$Path", "number", "I", true)
  | 1 => ("BuildCache$Path", "parent", "I", true)
  | 2 => ("BuildCache$Path", "name", "I", true)
  | 3 => ("BuildCache$Path", "isDirectory", "Z", true)
  | 4 => ("BuildCache$Path", "contents", "[LBuildCache$Content;", true)
  | 5 => ("BuildCache$Path", "files", "Ljava/util/ArrayList;", true)
  | _ => ("BuildCache$Path", "maker", "I", false)
def tyX8 : Nat → FieldType := fun k => match k with
  | 0 => .int
  | 1 => .int
  | 2 => .int
  | 3 => .boolean
  | 4 => .array (.object "BuildCache$Content")
  | 5 => .object "java/util/ArrayList"
  | _ => .int
theorem nmX8 : ∀ a, a < 7 → ∀ b, b < 7 → a ≠ b → (TX8 a).2.1 ≠ (TX8 b).2.1 := by decide +kernel
theorem tyX8_ok : ∀ k, k < 7 → parseFieldDescriptor (TX8 k).2.2.1 = some (tyX8 k) := by decide +kernel
abbrev cX8_init : ByteArray := prog_10_method_1_code
def yX8_init : MethodName := ⟨RX8, "<init>", "(IIIZ)V"⟩
abbrev cX8_addFile : ByteArray := prog_10_method_2_code
def yX8_addFile : MethodName := ⟨RX8, "addFile", "(LBuildCache$Path;)V"⟩
abbrev cX8_madeBy : ByteArray := prog_10_method_3_code
def yX8_madeBy : MethodName := ⟨RX8, "madeBy", "(I)V"⟩
abbrev cX8_makers : ByteArray := prog_10_method_4_code
def yX8_makers : MethodName := ⟨RX8, "makers", "()J"⟩
abbrev cX8_listed : ByteArray := prog_10_method_5_code
def yX8_listed : MethodName := ⟨RX8, "listed", "(I)I"⟩
def RX9 : String := "BuildCache$Runner"
def TX9 : u_T := fun k => match k with
  | 0 => ("BuildCache$Runner", "row", "LBuildCache$Content;", true)
  | _ => ("BuildCache$Runner", "passesOver", "Z", false)
def tyX9 : Nat → FieldType := fun k => match k with
  | 0 => .object "BuildCache$Content"
  | _ => .boolean
theorem nmX9 : ∀ a, a < 2 → ∀ b, b < 2 → a ≠ b → (TX9 a).2.1 ≠ (TX9 b).2.1 := by decide +kernel
theorem tyX9_ok : ∀ k, k < 2 → parseFieldDescriptor (TX9 k).2.2.1 = some (tyX9 k) := by decide +kernel
abbrev cX9_init : ByteArray := prog_11_method_1_code
def yX9_init : MethodName := ⟨RX9, "<init>", "()V"⟩
abbrev cX9_run : ByteArray := prog_11_method_2_code
def yX9_run : MethodName := ⟨RX9, "run", "(LBuildCache$Action;ILBuildCache$Outcome;)V"⟩
abbrev cX9_perform : ByteArray := prog_11_method_3_code
def yX9_perform : MethodName := ⟨RX9, "perform", "(LBuildCache$Action;IILBuildCache$Outcome;)I"⟩
abbrev cX9_reshape : ByteArray := prog_11_method_4_code
def yX9_reshape : MethodName := ⟨RX9, "reshape", "(II)I"⟩
abbrev cX9_readInput : ByteArray := prog_11_method_5_code
def yX9_readInput : MethodName := ⟨RX9, "readInput", "(LBuildCache$Action;II)I"⟩
abbrev cX9_listInput : ByteArray := prog_11_method_6_code
def yX9_listInput : MethodName := ⟨RX9, "listInput", "(LBuildCache$Action;II)I"⟩
abbrev cX9_writeOutput : ByteArray := prog_11_method_7_code
def yX9_writeOutput : MethodName := ⟨RX9, "writeOutput", "(LBuildCache$Outcome;I)I"⟩
abbrev cX9_skipFor : ByteArray := prog_11_method_8_code
def yX9_skipFor : MethodName := ⟨RX9, "skipFor", "(LBuildCache$Action;II)I"⟩
def RX10 : String := "BuildCache$Tree"
def TX10 : u_T := fun k => match k with
  | _ => ("BuildCache$Tree", "paths", "Ljava/util/ArrayList;", true)
def tyX10 : Nat → FieldType := fun k => match k with
  | _ => .object "java/util/ArrayList"
theorem nmX10 : ∀ a, a < 1 → ∀ b, b < 1 → a ≠ b → (TX10 a).2.1 ≠ (TX10 b).2.1 := by decide +kernel
theorem tyX10_ok : ∀ k, k < 1 → parseFieldDescriptor (TX10 k).2.2.1 = some (tyX10 k) := by decide +kernel
abbrev cX10_init : ByteArray := prog_12_method_1_code
def yX10_init : MethodName := ⟨RX10, "<init>", "()V"⟩
abbrev cX10_reset : ByteArray := prog_12_method_2_code
def yX10_reset : MethodName := ⟨RX10, "reset", "()V"⟩
abbrev cX10_size : ByteArray := prog_12_method_3_code
def yX10_size : MethodName := ⟨RX10, "size", "()I"⟩
abbrev cX10_has : ByteArray := prog_12_method_4_code
def yX10_has : MethodName := ⟨RX10, "has", "(I)Z"⟩
abbrev cX10_at : ByteArray := prog_12_method_5_code
def yX10_at : MethodName := ⟨RX10, "at", "(I)LBuildCache$Path;"⟩
abbrev cX10_isTaken : ByteArray := prog_12_method_6_code
def yX10_isTaken : MethodName := ⟨RX10, "isTaken", "(II)Z"⟩
abbrev cX10_add : ByteArray := prog_12_method_7_code
def yX10_add : MethodName := ⟨RX10, "add", "(IIZ)I"⟩
abbrev cX10_copySources : ByteArray := prog_12_method_8_code
def yX10_copySources : MethodName := ⟨RX10, "copySources", "(II)I"⟩
def RX11 : String := "BuildCache"
def TX11 : u_T := fun k => match k with
  | 0 => ("BuildCache", "tree", "LBuildCache$Tree;", true)
  | 1 => ("BuildCache", "tape", "LBuildCache$Content;", true)
  | 2 => ("BuildCache", "graph", "LBuildCache$Graph;", true)
  | 3 => ("BuildCache", "cache", "LBuildCache$Cache;", true)
  | 4 => ("BuildCache", "runner", "LBuildCache$Runner;", true)
  | 5 => ("BuildCache", "log", "LBuildCache$Log;", true)
  | 6 => ("BuildCache", "present", "LBuildCache$Key;", true)
  | _ => ("BuildCache", "trial", "LBuildCache$Outcome;", true)
def tyX11 : Nat → FieldType := fun k => match k with
  | 0 => .object "BuildCache$Tree"
  | 1 => .object "BuildCache$Content"
  | 2 => .object "BuildCache$Graph"
  | 3 => .object "BuildCache$Cache"
  | 4 => .object "BuildCache$Runner"
  | 5 => .object "BuildCache$Log"
  | 6 => .object "BuildCache$Key"
  | _ => .object "BuildCache$Outcome"
theorem nmX11 : ∀ a, a < 8 → ∀ b, b < 8 → a ≠ b → (TX11 a).2.1 ≠ (TX11 b).2.1 := by decide +kernel
theorem tyX11_ok : ∀ k, k < 8 → parseFieldDescriptor (TX11 k).2.2.1 = some (tyX11 k) := by decide +kernel
abbrev cX11_init : ByteArray := prog_1_method_1_code
def yX11_init : MethodName := ⟨RX11, "<init>", "()V"⟩
abbrev cX11_path : ByteArray := prog_1_method_2_code
def yX11_path : MethodName := ⟨RX11, "path", "(IIZ)I"⟩
abbrev cX11_of : ByteArray := prog_1_method_3_code
def yX11_of : MethodName := ⟨RX11, "of", "(II)I"⟩
abbrev cX11_feed : ByteArray := prog_1_method_4_code
def yX11_feed : MethodName := ⟨RX11, "feed", "(JI)I"⟩
abbrev cX11_write : ByteArray := prog_1_method_5_code
def yX11_write : MethodName := ⟨RX11, "write", "(II)I"⟩
abbrev cX11_remove : ByteArray := prog_1_method_6_code
def yX11_remove : MethodName := ⟨RX11, "remove", "(II)I"⟩
abbrev cX11_copy : ByteArray := prog_1_method_7_code
def yX11_copy : MethodName := ⟨RX11, "copy", "(I)I"⟩
abbrev cX11_length : ByteArray := prog_1_method_8_code
def yX11_length : MethodName := ⟨RX11, "length", "(II)I"⟩
abbrev cX11_byteAt : ByteArray := prog_1_method_9_code
def yX11_byteAt : MethodName := ⟨RX11, "byteAt", "(III)I"⟩
abbrev cX11_action : ByteArray := prog_1_method_10_code
def yX11_action : MethodName := ⟨RX11, "action", "()I"⟩
abbrev cX11_input : ByteArray := prog_1_method_11_code
def yX11_input : MethodName := ⟨RX11, "input", "(II)I"⟩
abbrev cX11_output : ByteArray := prog_1_method_12_code
def yX11_output : MethodName := ⟨RX11, "output", "(II)I"⟩
abbrev cX11_step : ByteArray := prog_1_method_13_code
def yX11_step : MethodName := ⟨RX11, "step", "(III)I"⟩
abbrev cX11_erase : ByteArray := prog_1_method_14_code
def yX11_erase : MethodName := ⟨RX11, "erase", "(I)I"⟩
abbrev cX11_about : ByteArray := prog_1_method_15_code
def yX11_about : MethodName := ⟨RX11, "about", "(II)I"⟩
abbrev cX11_uses : ByteArray := prog_1_method_16_code
def yX11_uses : MethodName := ⟨RX11, "uses", "(II)I"⟩
abbrev cX11_build : ByteArray := prog_1_method_17_code
def yX11_build : MethodName := ⟨RX11, "build", "(II)I"⟩
abbrev cX11_done : ByteArray := prog_1_method_18_code
def yX11_done : MethodName := ⟨RX11, "done", "(II)I"⟩
abbrev cX11_changed : ByteArray := prog_1_method_19_code
def yX11_changed : MethodName := ⟨RX11, "changed", "(II)I"⟩
abbrev cX11_key : ByteArray := prog_1_method_20_code
def yX11_key : MethodName := ⟨RX11, "key", "(II)J"⟩
abbrev cX11_isClean : ByteArray := prog_1_method_21_code
def yX11_isClean : MethodName := ⟨RX11, "isClean", "(I)I"⟩
abbrev cX11_capacity : ByteArray := prog_1_method_22_code
def yX11_capacity : MethodName := ⟨RX11, "capacity", "(I)I"⟩
abbrev cX11_entry : ByteArray := prog_1_method_23_code
def yX11_entry : MethodName := ⟨RX11, "entry", "(II)J"⟩
abbrev cX11_forget : ByteArray := prog_1_method_24_code
def yX11_forget : MethodName := ⟨RX11, "forget", "()I"⟩
abbrev cX11_count : ByteArray := prog_1_method_25_code
def yX11_count : MethodName := ⟨RX11, "count", "(I)I"⟩
abbrev cX11_clear : ByteArray := prog_1_method_26_code
def yX11_clear : MethodName := ⟨RX11, "clear", "()I"⟩
abbrev cX11_isSpace : ByteArray := prog_1_method_27_code
def yX11_isSpace : MethodName := ⟨RX11, "isSpace", "(I)Z"⟩
abbrev cX11_bit : ByteArray := prog_1_method_28_code
def yX11_bit : MethodName := ⟨RX11, "bit", "(I)J"⟩
abbrev cX11_refusalOfFile : ByteArray := prog_1_method_29_code
def yX11_refusalOfFile : MethodName := ⟨RX11, "refusalOfFile", "(II)I"⟩
abbrev cX11_refusalOfSource : ByteArray := prog_1_method_30_code
def yX11_refusalOfSource : MethodName := ⟨RX11, "refusalOfSource", "(II)I"⟩
abbrev cX11_carryOut : ByteArray := prog_1_method_31_code
def yX11_carryOut : MethodName := ⟨RX11, "carryOut", "(II)V"⟩
def RX12 : String := "BuildCacheModel"
def TX12 : u_T := fun k => match k with
  | 0 => ("BuildCacheModel", "paths", "I", false)
  | 1 => ("BuildCacheModel", "parent", "[I", true)
  | 2 => ("BuildCacheModel", "name", "[I", true)
  | 3 => ("BuildCacheModel", "isDirectory", "[Z", true)
  | 4 => ("BuildCacheModel", "maker", "[I", true)
  | 5 => ("BuildCacheModel", "size", "[I", true)
  | 6 => ("BuildCacheModel", "bytes", "[I", true)
  | 7 => ("BuildCacheModel", "tape", "[I", true)
  | 8 => ("BuildCacheModel", "tapeSize", "I", false)
  | 9 => ("BuildCacheModel", "actions", "I", false)
  | 10 => ("BuildCacheModel", "input", "[I", true)
  | 11 => ("BuildCacheModel", "inputs", "[I", true)
  | 12 => ("BuildCacheModel", "output", "[I", true)
  | 13 => ("BuildCacheModel", "outputs", "[I", true)
  | 14 => ("BuildCacheModel", "stepNumber", "[I", true)
  | 15 => ("BuildCacheModel", "stepValue", "[I", true)
  | 16 => ("BuildCacheModel", "steps", "[I", true)
  | 17 => ("BuildCacheModel", "wasDone", "[Z", true)
  | 18 => ("BuildCacheModel", "wasRow", "[I", true)
  | 19 => ("BuildCacheModel", "wasStart", "[I", true)
  | 20 => ("BuildCacheModel", "capacity", "I", false)
  | 21 => ("BuildCacheModel", "entries", "I", false)
  | 22 => ("BuildCacheModel", "row", "[I", true)
  | 23 => ("BuildCacheModel", "taken", "[Z", true)
  | 24 => ("BuildCacheModel", "entryRow", "[I", true)
  | 25 => ("BuildCacheModel", "entryRowSize", "[I", true)
  | 26 => ("BuildCacheModel", "entrySize", "[I", true)
  | 27 => ("BuildCacheModel", "entryFailure", "[I", true)
  | 28 => ("BuildCacheModel", "entryFound", "[I", true)
  | 29 => ("BuildCacheModel", "entryOutputs", "[I", true)
  | 30 => ("BuildCacheModel", "entryLength", "[I", true)
  | 31 => ("BuildCacheModel", "entryBytes", "[I", true)
  | 32 => ("BuildCacheModel", "dones", "I", false)
  | 33 => ("BuildCacheModel", "doneAction", "[I", true)
  | 34 => ("BuildCacheModel", "doneRun", "[I", true)
  | 35 => ("BuildCacheModel", "doneFailure", "[I", true)
  | 36 => ("BuildCacheModel", "doneChanged", "[I", true)
  | 37 => ("BuildCacheModel", "ran", "I", false)
  | 38 => ("BuildCacheModel", "found", "I", false)
  | 39 => ("BuildCacheModel", "evicted", "I", false)
  | 40 => ("BuildCacheModel", "builds", "I", false)
  | 41 => ("BuildCacheModel", "reached", "[Z", true)
  | 42 => ("BuildCacheModel", "now", "[I", true)
  | 43 => ("BuildCacheModel", "nowSize", "I", false)
  | 44 => ("BuildCacheModel", "nowStart", "[I", true)
  | 45 => ("BuildCacheModel", "listed", "[I", true)
  | 46 => ("BuildCacheModel", "listedMany", "I", false)
  | 47 => ("BuildCacheModel", "work", "[I", true)
  | 48 => ("BuildCacheModel", "workSize", "I", false)
  | 49 => ("BuildCacheModel", "failure", "I", false)
  | 50 => ("BuildCacheModel", "cameLength", "[I", true)
  | 51 => ("BuildCacheModel", "cameBytes", "[I", true)
  | 52 => ("BuildCacheModel", "needed", "[Z", true)
  | _ => ("BuildCacheModel", "isDone", "[Z", true)
def tyX12 : Nat → FieldType := fun k => match k with
  | 0 => .int
  | 1 => .array .int
  | 2 => .array .int
  | 3 => .array .boolean
  | 4 => .array .int
  | 5 => .array .int
  | 6 => .array .int
  | 7 => .array .int
  | 8 => .int
  | 9 => .int
  | 10 => .array .int
  | 11 => .array .int
  | 12 => .array .int
  | 13 => .array .int
  | 14 => .array .int
  | 15 => .array .int
  | 16 => .array .int
  | 17 => .array .boolean
  | 18 => .array .int
  | 19 => .array .int
  | 20 => .int
  | 21 => .int
  | 22 => .array .int
  | 23 => .array .boolean
  | 24 => .array .int
  | 25 => .array .int
  | 26 => .array .int
  | 27 => .array .int
  | 28 => .array .int
  | 29 => .array .int
  | 30 => .array .int
  | 31 => .array .int
  | 32 => .int
  | 33 => .array .int
  | 34 => .array .int
  | 35 => .array .int
  | 36 => .array .int
  | 37 => .int
  | 38 => .int
  | 39 => .int
  | 40 => .int
  | 41 => .array .boolean
  | 42 => .array .int
  | 43 => .int
  | 44 => .array .int
  | 45 => .array .int
  | 46 => .int
  | 47 => .array .int
  | 48 => .int
  | 49 => .int
  | 50 => .array .int
  | 51 => .array .int
  | 52 => .array .boolean
  | _ => .array .boolean
theorem nmX12 : ∀ a, a < 54 → ∀ b, b < 54 → a ≠ b → (TX12 a).2.1 ≠ (TX12 b).2.1 := by decide +kernel
theorem tyX12_ok : ∀ k, k < 54 → parseFieldDescriptor (TX12 k).2.2.1 = some (tyX12 k) := by decide +kernel
abbrev cX12_init : ByteArray := prog_14_method_1_code
def yX12_init : MethodName := ⟨RX12, "<init>", "()V"⟩
abbrev cX12_in : ByteArray := prog_14_method_2_code
def yX12_in : MethodName := ⟨RX12, "in", "(III)Z"⟩
abbrev cX12_isPath : ByteArray := prog_14_method_3_code
def yX12_isPath : MethodName := ⟨RX12, "isPath", "(I)Z"⟩
abbrev cX12_isAction : ByteArray := prog_14_method_4_code
def yX12_isAction : MethodName := ⟨RX12, "isAction", "(I)Z"⟩
abbrev cX12_path : ByteArray := prog_14_method_5_code
def yX12_path : MethodName := ⟨RX12, "path", "(IIZ)I"⟩
abbrev cX12_of : ByteArray := prog_14_method_6_code
def yX12_of : MethodName := ⟨RX12, "of", "(II)I"⟩
abbrev cX12_feed : ByteArray := prog_14_method_7_code
def yX12_feed : MethodName := ⟨RX12, "feed", "(JI)I"⟩
abbrev cX12_isBadFile : ByteArray := prog_14_method_8_code
def yX12_isBadFile : MethodName := ⟨RX12, "isBadFile", "(II)Z"⟩
abbrev cX12_isSource : ByteArray := prog_14_method_9_code
def yX12_isSource : MethodName := ⟨RX12, "isSource", "(I)Z"⟩
abbrev cX12_write : ByteArray := prog_14_method_10_code
def yX12_write : MethodName := ⟨RX12, "write", "(II)I"⟩
abbrev cX12_remove : ByteArray := prog_14_method_11_code
def yX12_remove : MethodName := ⟨RX12, "remove", "(II)I"⟩
abbrev cX12_isAlike : ByteArray := prog_14_method_12_code
def yX12_isAlike : MethodName := ⟨RX12, "isAlike", "(III)Z"⟩
abbrev cX12_copyFile : ByteArray := prog_14_method_13_code
def yX12_copyFile : MethodName := ⟨RX12, "copyFile", "(III)V"⟩
abbrev cX12_copy : ByteArray := prog_14_method_14_code
def yX12_copy : MethodName := ⟨RX12, "copy", "(I)I"⟩
abbrev cX12_length : ByteArray := prog_14_method_15_code
def yX12_length : MethodName := ⟨RX12, "length", "(II)I"⟩
abbrev cX12_byteAt : ByteArray := prog_14_method_16_code
def yX12_byteAt : MethodName := ⟨RX12, "byteAt", "(III)I"⟩
abbrev cX12_action : ByteArray := prog_14_method_17_code
def yX12_action : MethodName := ⟨RX12, "action", "()I"⟩
abbrev cX12_isUsed : ByteArray := prog_14_method_18_code
def yX12_isUsed : MethodName := ⟨RX12, "isUsed", "(II)Z"⟩
abbrev cX12_reach : ByteArray := prog_14_method_19_code
def yX12_reach : MethodName := ⟨RX12, "reach", "(I)V"⟩
abbrev cX12_isCircle : ByteArray := prog_14_method_20_code
def yX12_isCircle : MethodName := ⟨RX12, "isCircle", "(I)Z"⟩
abbrev cX12_input : ByteArray := prog_14_method_21_code
def yX12_input : MethodName := ⟨RX12, "input", "(II)I"⟩
abbrev cX12_comesToItself : ByteArray := prog_14_method_22_code
def yX12_comesToItself : MethodName := ⟨RX12, "comesToItself", "(IIZ)Z"⟩
abbrev cX12_output : ByteArray := prog_14_method_23_code
def yX12_output : MethodName := ⟨RX12, "output", "(II)I"⟩
abbrev cX12_step : ByteArray := prog_14_method_24_code
def yX12_step : MethodName := ⟨RX12, "step", "(III)I"⟩
abbrev cX12_erase : ByteArray := prog_14_method_25_code
def yX12_erase : MethodName := ⟨RX12, "erase", "(I)I"⟩
abbrev cX12_about : ByteArray := prog_14_method_26_code
def yX12_about : MethodName := ⟨RX12, "about", "(II)I"⟩
abbrev cX12_uses : ByteArray := prog_14_method_27_code
def yX12_uses : MethodName := ⟨RX12, "uses", "(II)I"⟩
abbrev cX12_mix : ByteArray := prog_14_method_28_code
def yX12_mix : MethodName := ⟨RX12, "mix", "(I)V"⟩
abbrev cX12_mixHead : ByteArray := prog_14_method_29_code
def yX12_mixHead : MethodName := ⟨RX12, "mixHead", "(I)V"⟩
abbrev cX12_list : ByteArray := prog_14_method_30_code
def yX12_list : MethodName := ⟨RX12, "list", "(II)V"⟩
abbrev cX12_mixPart : ByteArray := prog_14_method_31_code
def yX12_mixPart : MethodName := ⟨RX12, "mixPart", "(II)V"⟩
abbrev cX12_layKey : ByteArray := prog_14_method_32_code
def yX12_layKey : MethodName := ⟨RX12, "layKey", "(II)V"⟩
abbrev cX12_signOf : ByteArray := prog_14_method_33_code
def yX12_signOf : MethodName := ⟨RX12, "signOf", "([III)J"⟩
abbrev cX12_key : ByteArray := prog_14_method_34_code
def yX12_key : MethodName := ⟨RX12, "key", "(II)J"⟩
abbrev cX12_isRow : ByteArray := prog_14_method_35_code
def yX12_isRow : MethodName := ⟨RX12, "isRow", "(II[III)Z"⟩
abbrev cX12_changedOf : ByteArray := prog_14_method_36_code
def yX12_changedOf : MethodName := ⟨RX12, "changedOf", "(II)I"⟩
abbrev cX12_changed : ByteArray := prog_14_method_37_code
def yX12_changed : MethodName := ⟨RX12, "changed", "(II)I"⟩
abbrev cX12_note : ByteArray := prog_14_method_38_code
def yX12_note : MethodName := ⟨RX12, "note", "(II)V"⟩
abbrev cX12_add : ByteArray := prog_14_method_39_code
def yX12_add : MethodName := ⟨RX12, "add", "(I)V"⟩
abbrev cX12_figures : ByteArray := prog_14_method_40_code
def yX12_figures : MethodName := ⟨RX12, "figures", "(I)V"⟩
abbrev cX12_read : ByteArray := prog_14_method_41_code
def yX12_read : MethodName := ⟨RX12, "read", "(II)V"⟩
abbrev cX12_listIn : ByteArray := prog_14_method_42_code
def yX12_listIn : MethodName := ⟨RX12, "listIn", "(II)V"⟩
abbrev cX12_writeOut : ByteArray := prog_14_method_43_code
def yX12_writeOut : MethodName := ⟨RX12, "writeOut", "(I)V"⟩
abbrev cX12_turn : ByteArray := prog_14_method_44_code
def yX12_turn : MethodName := ⟨RX12, "turn", "()V"⟩
abbrev cX12_sort : ByteArray := prog_14_method_45_code
def yX12_sort : MethodName := ⟨RX12, "sort", "()V"⟩
abbrev cX12_once : ByteArray := prog_14_method_46_code
def yX12_once : MethodName := ⟨RX12, "once", "()V"⟩
abbrev cX12_twice : ByteArray := prog_14_method_47_code
def yX12_twice : MethodName := ⟨RX12, "twice", "()V"⟩
abbrev cX12_sum : ByteArray := prog_14_method_48_code
def yX12_sum : MethodName := ⟨RX12, "sum", "()I"⟩
abbrev cX12_mixWith : ByteArray := prog_14_method_49_code
def yX12_mixWith : MethodName := ⟨RX12, "mixWith", "(I)V"⟩
abbrev cX12_alone : ByteArray := prog_14_method_50_code
def yX12_alone : MethodName := ⟨RX12, "alone", "(II)V"⟩
abbrev cX12_play : ByteArray := prog_14_method_51_code
def yX12_play : MethodName := ⟨RX12, "play", "(II)V"⟩
abbrev cX12_lay : ByteArray := prog_14_method_52_code
def yX12_lay : MethodName := ⟨RX12, "lay", "(II)V"⟩
abbrev cX12_sizes : ByteArray := prog_14_method_53_code
def yX12_sizes : MethodName := ⟨RX12, "sizes", "()I"⟩
abbrev cX12_takeOut : ByteArray := prog_14_method_54_code
def yX12_takeOut : MethodName := ⟨RX12, "takeOut", "(I)V"⟩
abbrev cX12_trim : ByteArray := prog_14_method_55_code
def yX12_trim : MethodName := ⟨RX12, "trim", "(I)I"⟩
abbrev cX12_placeOf : ByteArray := prog_14_method_56_code
def yX12_placeOf : MethodName := ⟨RX12, "placeOf", "()I"⟩
abbrev cX12_enter : ByteArray := prog_14_method_57_code
def yX12_enter : MethodName := ⟨RX12, "enter", "(I)V"⟩
abbrev cX12_use : ByteArray := prog_14_method_58_code
def yX12_use : MethodName := ⟨RX12, "use", "(I)V"⟩
abbrev cX12_need : ByteArray := prog_14_method_59_code
def yX12_need : MethodName := ⟨RX12, "need", "(I)V"⟩
abbrev cX12_next : ByteArray := prog_14_method_60_code
def yX12_next : MethodName := ⟨RX12, "next", "()I"⟩
abbrev cX12_does : ByteArray := prog_14_method_61_code
def yX12_does : MethodName := ⟨RX12, "does", "(II)V"⟩
abbrev cX12_build : ByteArray := prog_14_method_62_code
def yX12_build : MethodName := ⟨RX12, "build", "(II)I"⟩
abbrev cX12_done : ByteArray := prog_14_method_63_code
def yX12_done : MethodName := ⟨RX12, "done", "(II)I"⟩
abbrev cX12_isClean : ByteArray := prog_14_method_64_code
def yX12_isClean : MethodName := ⟨RX12, "isClean", "(I)I"⟩
abbrev cX12_capacity : ByteArray := prog_14_method_65_code
def yX12_capacity : MethodName := ⟨RX12, "capacity", "(I)I"⟩
abbrev cX12_entry : ByteArray := prog_14_method_66_code
def yX12_entry : MethodName := ⟨RX12, "entry", "(II)J"⟩
abbrev cX12_forget : ByteArray := prog_14_method_67_code
def yX12_forget : MethodName := ⟨RX12, "forget", "()I"⟩
abbrev cX12_count : ByteArray := prog_14_method_68_code
def yX12_count : MethodName := ⟨RX12, "count", "(I)I"⟩
abbrev cX12_clear : ByteArray := prog_14_method_69_code
def yX12_clear : MethodName := ⟨RX12, "clear", "()I"⟩
def RJx145de : String := "java/io/Serializable"
def TJx145de : u_T := fun k => match k with
  | _ => ("", "", "", false)
def tyJx145de : Nat → FieldType := fun k => match k with
  | _ => .int
theorem nmJx145de : ∀ a, a < 0 → ∀ b, b < 0 → a ≠ b → (TJx145de a).2.1 ≠ (TJx145de b).2.1 := by decide +kernel
theorem tyJx145de_ok : ∀ k, k < 0 → parseFieldDescriptor (TJx145de k).2.2.1 = some (tyJx145de k) := by decide +kernel
def RJx8e188 : String := "java/lang/Cloneable"
def TJx8e188 : u_T := fun k => match k with
  | _ => ("", "", "", false)
def tyJx8e188 : Nat → FieldType := fun k => match k with
  | _ => .int
theorem nmJx8e188 : ∀ a, a < 0 → ∀ b, b < 0 → a ≠ b → (TJx8e188 a).2.1 ≠ (TJx8e188 b).2.1 := by decide +kernel
theorem tyJx8e188_ok : ∀ k, k < 0 → parseFieldDescriptor (TJx8e188 k).2.2.1 = some (tyJx8e188 k) := by decide +kernel
def RJxab1ab : String := "java/lang/Iterable"
def TJxab1ab : u_T := fun k => match k with
  | _ => ("", "", "", false)
def tyJxab1ab : Nat → FieldType := fun k => match k with
  | _ => .int
theorem nmJxab1ab : ∀ a, a < 0 → ∀ b, b < 0 → a ≠ b → (TJxab1ab a).2.1 ≠ (TJxab1ab b).2.1 := by decide +kernel
theorem tyJxab1ab_ok : ∀ k, k < 0 → parseFieldDescriptor (TJxab1ab k).2.2.1 = some (tyJxab1ab k) := by decide +kernel
def RJ13 : String := "java/lang/Long"
def TJ13 : u_T := fun k => match k with
  | _ => ("", "", "", false)
def tyJ13 : Nat → FieldType := fun k => match k with
  | _ => .int
theorem nmJ13 : ∀ a, a < 0 → ∀ b, b < 0 → a ≠ b → (TJ13 a).2.1 ≠ (TJ13 b).2.1 := by decide +kernel
theorem tyJ13_ok : ∀ k, k < 0 → parseFieldDescriptor (TJ13 k).2.2.1 = some (tyJ13 k) := by decide +kernel
abbrev cJ13_bitCount_95d88 : ByteArray := prog_18_method_50_code
def yJ13_bitCount_95d88 : MethodName := ⟨RJ13, "bitCount", "(J)I"⟩
def RJ9 : String := "java/lang/Math"
def TJ9 : u_T := fun k => match k with
  | _ => ("", "", "", false)
def tyJ9 : Nat → FieldType := fun k => match k with
  | _ => .int
theorem nmJ9 : ∀ a, a < 0 → ∀ b, b < 0 → a ≠ b → (TJ9 a).2.1 ≠ (TJ9 b).2.1 := by decide +kernel
theorem tyJ9_ok : ∀ k, k < 0 → parseFieldDescriptor (TJ9 k).2.2.1 = some (tyJ9 k) := by decide +kernel
abbrev cJ9_max_7cf53 : ByteArray := prog_19_method_65_code
def yJ9_max_7cf53 : MethodName := ⟨RJ9, "max", "(II)I"⟩
abbrev cJ9_min_7cf53 : ByteArray := prog_19_method_69_code
def yJ9_min_7cf53 : MethodName := ⟨RJ9, "min", "(II)I"⟩
def RJ10 : String := "java/lang/System"
def TJ10 : u_T := fun k => match k with
  | _ => ("", "", "", false)
def tyJ10 : Nat → FieldType := fun k => match k with
  | _ => .int
theorem nmJ10 : ∀ a, a < 0 → ∀ b, b < 0 → a ≠ b → (TJ10 a).2.1 ≠ (TJ10 b).2.1 := by decide +kernel
theorem tyJ10_ok : ∀ k, k < 0 → parseFieldDescriptor (TJ10 k).2.2.1 = some (tyJ10 k) := by decide +kernel
def RJxa1e45 : String := "java/util/AbstractCollection"
def TJxa1e45 : u_T := fun k => match k with
  | _ => ("", "", "", false)
def tyJxa1e45 : Nat → FieldType := fun k => match k with
  | _ => .int
theorem nmJxa1e45 : ∀ a, a < 0 → ∀ b, b < 0 → a ≠ b → (TJxa1e45 a).2.1 ≠ (TJxa1e45 b).2.1 := by decide +kernel
theorem tyJxa1e45_ok : ∀ k, k < 0 → parseFieldDescriptor (TJxa1e45 k).2.2.1 = some (tyJxa1e45 k) := by decide +kernel
abbrev cJxa1e45_init_da8c8 : ByteArray := prog_21_method_1_code
def yJxa1e45_init_da8c8 : MethodName := ⟨RJxa1e45, "<init>", "()V"⟩
def RJxc12de : String := "java/util/AbstractList"
def TJxc12de : u_T := fun k => match k with
  | _ => ("", "", "", false)
def tyJxc12de : Nat → FieldType := fun k => match k with
  | _ => .int
theorem nmJxc12de : ∀ a, a < 0 → ∀ b, b < 0 → a ≠ b → (TJxc12de a).2.1 ≠ (TJxc12de b).2.1 := by decide +kernel
theorem tyJxc12de_ok : ∀ k, k < 0 → parseFieldDescriptor (TJxc12de k).2.2.1 = some (tyJxc12de k) := by decide +kernel
abbrev cJxc12de_init_da8c8 : ByteArray := prog_22_method_1_code
def yJxc12de_init_da8c8 : MethodName := ⟨RJxc12de, "<init>", "()V"⟩
def RJx4a65c : String := "java/util/ArrayList"
def TJx4a65c : u_T := fun k => match k with
  | 0 => ("java/util/AbstractList", "modCount", "I", false)
  | 1 => ("java/util/ArrayList", "elementData", "[Ljava/lang/Object;", false)
  | _ => ("java/util/ArrayList", "size", "I", false)
def tyJx4a65c : Nat → FieldType := fun k => match k with
  | 0 => .int
  | 1 => .array (.object "java/lang/Object")
  | _ => .int
theorem nmJx4a65c : ∀ a, a < 3 → ∀ b, b < 3 → a ≠ b → (TJx4a65c a).2.1 ≠ (TJx4a65c b).2.1 := by decide +kernel
theorem tyJx4a65c_ok : ∀ k, k < 3 → parseFieldDescriptor (TJx4a65c k).2.2.1 = some (tyJx4a65c k) := by decide +kernel
abbrev cJx4a65c_init_da8c8 : ByteArray := prog_23_method_2_code
def yJx4a65c_init_da8c8 : MethodName := ⟨RJx4a65c, "<init>", "()V"⟩
abbrev cJx4a65c_grow_92f84 : ByteArray := prog_23_method_6_code
def yJx4a65c_grow_92f84 : MethodName := ⟨RJx4a65c, "grow", "(I)[Ljava/lang/Object;"⟩
abbrev cJx4a65c_grow_d5877 : ByteArray := prog_23_method_7_code
def yJx4a65c_grow_d5877 : MethodName := ⟨RJx4a65c, "grow", "()[Ljava/lang/Object;"⟩
abbrev cJx4a65c_size_8abf5 : ByteArray := prog_23_method_8_code
def yJx4a65c_size_8abf5 : MethodName := ⟨RJx4a65c, "size", "()I"⟩
abbrev cJx4a65c_isEmpty_aae02 : ByteArray := prog_23_method_9_code
def yJx4a65c_isEmpty_aae02 : MethodName := ⟨RJx4a65c, "isEmpty", "()Z"⟩
abbrev cJx4a65c_elementData_915e3 : ByteArray := prog_23_method_18_code
def yJx4a65c_elementData_915e3 : MethodName := ⟨RJx4a65c, "elementData", "(I)Ljava/lang/Object;"⟩
abbrev cJx4a65c_get_915e3 : ByteArray := prog_23_method_20_code
def yJx4a65c_get_915e3 : MethodName := ⟨RJx4a65c, "get", "(I)Ljava/lang/Object;"⟩
abbrev cJx4a65c_add_72be8 : ByteArray := prog_23_method_24_code
def yJx4a65c_add_72be8 : MethodName := ⟨RJx4a65c, "add", "(Ljava/lang/Object;[Ljava/lang/Object;I)V"⟩
abbrev cJx4a65c_add_9ea2d : ByteArray := prog_23_method_25_code
def yJx4a65c_add_9ea2d : MethodName := ⟨RJx4a65c, "add", "(Ljava/lang/Object;)Z"⟩
abbrev cJx4a65c_add_7a177 : ByteArray := prog_23_method_26_code
def yJx4a65c_add_7a177 : MethodName := ⟨RJx4a65c, "add", "(ILjava/lang/Object;)V"⟩
abbrev cJx4a65c_remove_915e3 : ByteArray := prog_23_method_29_code
def yJx4a65c_remove_915e3 : MethodName := ⟨RJx4a65c, "remove", "(I)Ljava/lang/Object;"⟩
abbrev cJx4a65c_fastRemove_b59b0 : ByteArray := prog_23_method_39_code
def yJx4a65c_fastRemove_b59b0 : MethodName := ⟨RJx4a65c, "fastRemove", "([Ljava/lang/Object;I)V"⟩
abbrev cJx4a65c_clear_da8c8 : ByteArray := prog_23_method_40_code
def yJx4a65c_clear_da8c8 : MethodName := ⟨RJx4a65c, "clear", "()V"⟩
abbrev cJx4a65c_rangeCheckForAdd_d00df : ByteArray := prog_23_method_45_code
def yJx4a65c_rangeCheckForAdd_d00df : MethodName := ⟨RJx4a65c, "rangeCheckForAdd", "(I)V"⟩
def RJ7 : String := "java/util/Arrays"
def TJ7 : u_T := fun k => match k with
  | _ => ("", "", "", false)
def tyJ7 : Nat → FieldType := fun k => match k with
  | _ => .int
theorem nmJ7 : ∀ a, a < 0 → ∀ b, b < 0 → a ≠ b → (TJ7 a).2.1 ≠ (TJ7 b).2.1 := by decide +kernel
theorem tyJ7_ok : ∀ k, k < 0 → parseFieldDescriptor (TJ7 k).2.2.1 = some (tyJ7 k) := by decide +kernel
abbrev cJ7_copyOf_1904c : ByteArray := prog_24_method_119_code
def yJ7_copyOf_1904c : MethodName := ⟨RJ7, "copyOf", "([Ljava/lang/Object;I)[Ljava/lang/Object;"⟩
abbrev cJ7_copyOf_6403c : ByteArray := prog_24_method_120_code
def yJ7_copyOf_6403c : MethodName := ⟨RJ7, "copyOf", "([Ljava/lang/Object;ILjava/lang/Class;)[Ljava/lang/Object;"⟩
def RJx5ef63 : String := "java/util/Collection"
def TJx5ef63 : u_T := fun k => match k with
  | _ => ("", "", "", false)
def tyJx5ef63 : Nat → FieldType := fun k => match k with
  | _ => .int
theorem nmJx5ef63 : ∀ a, a < 0 → ∀ b, b < 0 → a ≠ b → (TJx5ef63 a).2.1 ≠ (TJx5ef63 b).2.1 := by decide +kernel
theorem tyJx5ef63_ok : ∀ k, k < 0 → parseFieldDescriptor (TJx5ef63 k).2.2.1 = some (tyJx5ef63 k) := by decide +kernel
def RJxbd725 : String := "java/util/List"
def TJxbd725 : u_T := fun k => match k with
  | _ => ("", "", "", false)
def tyJxbd725 : Nat → FieldType := fun k => match k with
  | _ => .int
theorem nmJxbd725 : ∀ a, a < 0 → ∀ b, b < 0 → a ≠ b → (TJxbd725 a).2.1 ≠ (TJxbd725 b).2.1 := by decide +kernel
theorem tyJxbd725_ok : ∀ k, k < 0 → parseFieldDescriptor (TJxbd725 k).2.2.1 = some (tyJxbd725 k) := by decide +kernel
def RJ15 : String := "java/util/Objects"
def TJ15 : u_T := fun k => match k with
  | _ => ("", "", "", false)
def tyJ15 : Nat → FieldType := fun k => match k with
  | _ => .int
theorem nmJ15 : ∀ a, a < 0 → ∀ b, b < 0 → a ≠ b → (TJ15 a).2.1 ≠ (TJ15 b).2.1 := by decide +kernel
theorem tyJ15_ok : ∀ k, k < 0 → parseFieldDescriptor (TJ15 k).2.2.1 = some (tyJ15 k) := by decide +kernel
abbrev cJ15_checkIndex_7cf53 : ByteArray := prog_27_method_17_code
def yJ15_checkIndex_7cf53 : MethodName := ⟨RJ15, "checkIndex", "(II)I"⟩
def RJxf0a74 : String := "java/util/RandomAccess"
def TJxf0a74 : u_T := fun k => match k with
  | _ => ("", "", "", false)
def tyJxf0a74 : Nat → FieldType := fun k => match k with
  | _ => .int
theorem nmJxf0a74 : ∀ a, a < 0 → ∀ b, b < 0 → a ≠ b → (TJxf0a74 a).2.1 ≠ (TJxf0a74 b).2.1 := by decide +kernel
theorem tyJxf0a74_ok : ∀ k, k < 0 → parseFieldDescriptor (TJxf0a74 k).2.2.1 = some (tyJxf0a74 k) := by decide +kernel
def RJxa66e6 : String := "java/util/SequencedCollection"
def TJxa66e6 : u_T := fun k => match k with
  | _ => ("", "", "", false)
def tyJxa66e6 : Nat → FieldType := fun k => match k with
  | _ => .int
theorem nmJxa66e6 : ∀ a, a < 0 → ∀ b, b < 0 → a ≠ b → (TJxa66e6 a).2.1 ≠ (TJxa66e6 b).2.1 := by decide +kernel
theorem tyJxa66e6_ok : ∀ k, k < 0 → parseFieldDescriptor (TJxa66e6 k).2.2.1 = some (tyJxa66e6 k) := by decide +kernel
def RJ8 : String := "jdk/internal/util/ArraysSupport"
def TJ8 : u_T := fun k => match k with
  | _ => ("", "", "", false)
def tyJ8 : Nat → FieldType := fun k => match k with
  | _ => .int
theorem nmJ8 : ∀ a, a < 0 → ∀ b, b < 0 → a ≠ b → (TJ8 a).2.1 ≠ (TJ8 b).2.1 := by decide +kernel
theorem tyJ8_ok : ∀ k, k < 0 → parseFieldDescriptor (TJ8 k).2.2.1 = some (tyJ8 k) := by decide +kernel
abbrev cJ8_newLength_cabcc : ByteArray := prog_30_method_27_code
def yJ8_newLength_cabcc : MethodName := ⟨RJ8, "newLength", "(III)I"⟩
abbrev cJ8_hugeLength_7cf53 : ByteArray := prog_30_method_28_code
def yJ8_hugeLength_7cf53 : MethodName := ⟨RJ8, "hugeLength", "(II)I"⟩
def RJ3 : String := "jdk/internal/util/Preconditions"
def TJ3 : u_T := fun k => match k with
  | _ => ("", "", "", false)
def tyJ3 : Nat → FieldType := fun k => match k with
  | _ => .int
theorem nmJ3 : ∀ a, a < 0 → ∀ b, b < 0 → a ≠ b → (TJ3 a).2.1 ≠ (TJ3 b).2.1 := by decide +kernel
theorem tyJ3_ok : ∀ k, k < 0 → parseFieldDescriptor (TJ3 k).2.2.1 = some (tyJ3 k) := by decide +kernel
abbrev cJ3_checkIndex_8e157 : ByteArray := prog_31_method_11_code
def yJ3_checkIndex_8e157 : MethodName := ⟨RJ3, "checkIndex", "(IILjava/util/function/BiFunction;)I"⟩
def RL : String := "BuildCacheLaw"
abbrev cL_law : ByteArray := code
def yL_law : MethodName := ⟨RL, "law", "([I)Z"⟩
