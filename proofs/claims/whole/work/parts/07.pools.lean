def pfP : List Nat := [568, 573, 577, 580, 583, 585, 589, 164, 183, 390, 295, 297, 298, 300, 302, 800, 795, 803, 797, 148, 151, 794, 796, 799, 802, 282, 590, 571, 166, 170, 365, 366, 367, 368, 369, 575, 586, 578, 581, 569, 178, 181, 187, 173, 156, 149, 338, 340, 342, 344, 346, 389, 392, 395, 155, 180, 186, 189, 163, 167, 171, 176, 154, 323, 324, 574, 153, 587, 582, 579, 570, 179, 184, 188, 175, 393, 391, 268, 169, 174, 165, 191, 185, 404, 405, 406, 407, 408, 409, 410, 411, 152, 177, 168, 172, 190, 182, 150, 572, 576, 588, 591, 343, 341, 339, 584, 299, 296, 801, 798, 396, 804, 394, 301, 345, 303, 347, 283, 1012, 1013, 1014, 1015, 1016, 1017, 1018, 1019, 1022, 1023, 1024, 1025, 1026, 1027, 1028, 1029, 1030, 1031, 1032, 1034, 1035, 1036, 1037, 1038, 1039, 1040, 1041, 1042, 1043, 1045, 1046, 1047, 1048, 1053, 1054, 1056, 1057, 1059, 1062, 1063, 1064, 1065, 1021, 1020, 1055, 1058, 1060, 1061, 1033, 1051, 1044, 1049, 1050, 1052, 113, 114, 116, 115]
/-- a field's link: its word; its class and place; by which class it is spelt -/
def pfOk (q : (Nat × Nat × Nat × Nat × Nat) × Nat) : Prop := lw_tbl[q.2]? = some (.fieldLink (cNm q.1.1) q.1.2.1 (cNm q.1.2.2.2.2) ((cRow q.1.2.2.1).2.1 q.1.2.2.2.1).2.1 ((cRow q.1.2.2.1).2.1 q.1.2.2.2.1).2.2.1) ∧ q.1.2.2.1 < 14 ∧ q.1.2.2.2.1 < (cRow q.1.2.2.1).2.2 ∧ (cNm q.1.2.2.2.2 = ((cRow q.1.2.2.1).2.1 q.1.2.2.2.1).1 ∨ lw_tbl[117]? = some (.sameField (cNm q.1.2.2.2.2) ((cRow q.1.2.2.1).2.1 q.1.2.2.2.1).1 ((cRow q.1.2.2.1).2.1 q.1.2.2.2.1).2.1 ((cRow q.1.2.2.1).2.1 q.1.2.2.2.1).2.2.1))
theorem pf_ok : ∀ q ∈ zPF.zip pfP, pfOk q := by unfold pfOk; decide +kernel
theorem pf_len : zPF.length = pfP.length := by decide +kernel
def piP : List Nat := [562, 564, 567, 625, 626, 680, 681, 922, 292, 294, 999, 767, 773, 774, 776, 814, 835, 781, 786, 822, 932, 937, 984, 147, 865, 896, 909, 789, 791, 793, 826, 830, 279, 281, 552, 620, 559, 607, 632, 643, 639, 659, 364, 723, 724, 728, 730, 734, 747, 738, 746, 759, 755, 335, 386, 388, 845, 846, 936, 138, 142, 144, 476, 477, 479, 636, 742, 320, 322, 840, 841, 850, 917, 854, 866, 867, 871, 876, 880, 884, 888, 892, 897, 901, 905, 913, 861, 858, 860, 875, 98, 101, 125, 129, 135, 207, 437, 445, 471, 472, 531, 535, 90, 95, 273, 276, 289, 317, 332, 361, 383, 433, 441, 459, 463, 467, 496, 504, 515, 512, 527, 508, 548, 553, 612, 616, 621, 628, 644, 645, 646, 655, 660, 668, 676, 686, 696, 701, 705, 706, 707, 711, 715, 719, 751, 954, 836, 918, 959, 967, 973, 975, 980, 993, 994, 995, 1000, 763, 777, 831, 923, 924, 928, 1009, 1184, 1180, 1200, 1204, 1216, 1220, 1252, 1248, 1240, 1244, 1256, 1292, 1300, 1288, 1296, 1284, 1304, 1317, 1313, 1357, 1361, 1365, 1369, 1373, 1377, 1381, 1385, 1349, 1353, 1389, 1393, 1405, 1409, 1401, 1337, 1341, 1345, 1397, 1413, 1417, 1325, 1329, 1333, 1450, 104, 233, 219, 223, 266, 487, 449, 455, 215, 211, 483, 818, 107, 110, 236, 263, 254, 260, 452, 226, 230, 87, 1006, 429, 1176, 488, 1187, 492, 1191, 500, 1196, 519, 1208, 523, 1212, 536, 1224, 540, 1228, 544, 1232, 608, 1236, 651, 1260, 664, 1264, 672, 1268, 682, 1272, 692, 1276, 697, 1321, 942, 1421, 946, 1309, 950, 1280, 955, 1425, 963, 1429, 968, 1433, 976, 1438, 985, 1442, 989, 1446]
def gcY : MethodName := ⟨"java/lang/Object", "getClass", "()Ljava/lang/Class;"⟩
def piY (x k : Nat) : MethodName := if k = 5 then objectInit else if k = 6 then arraycopyName else if k = 7 then gcY else if k = 8 then Lib.Math.max.name else if k = 9 then Lib.Math.min.name else mY x
/-- a call's link -/
def piOk (q : (Nat × Nat × Nat × Nat × Nat) × Nat) : Prop := lw_tbl[q.2]? = some (if q.1.2.2.2.1 = 3 ∨ q.1.2.2.2.1 = 4 then .methodLinkNest (cNm q.1.1) q.1.2.1 (mY q.1.2.2.1) "BuildCache" else .methodLink (cNm q.1.1) q.1.2.1 (piY q.1.2.2.1 q.1.2.2.2.1)) ∧
  (q.1.2.2.2.1 < 5 → q.1.2.2.1 < 204 ∧ (parseMethodDescriptor (mY q.1.2.2.1).desc).map (fun d => d.parameters.length) = some q.1.2.2.2.2 ∧ (q.1.2.2.2.1 = 0 → zSelOk q.1.2.2.1 = true) ∧ (mSt.getD q.1.2.2.1 false = (q.1.2.2.2.1 == 1 || q.1.2.2.2.1 == 4)) ∧ (q.1.2.2.2.1 = 2 ∨ q.1.2.2.2.1 = 3 → (mY q.1.2.2.1).name = "<init>" ∧ mR q.1.2.2.1 = none))
def zPIg (g : Nat) : List ((Nat × Nat × Nat × Nat × Nat) × Nat) := ((zPI.zip piP).drop (60 * g)).take 60
set_option maxRecDepth 100000 in
theorem pi_ok_0 : ∀ q ∈ zPIg 0, piOk q := by unfold piOk; decide +kernel
set_option maxRecDepth 100000 in
theorem pi_ok_1 : ∀ q ∈ zPIg 1, piOk q := by unfold piOk; decide +kernel
set_option maxRecDepth 100000 in
theorem pi_ok_2 : ∀ q ∈ zPIg 2, piOk q := by unfold piOk; decide +kernel
set_option maxRecDepth 100000 in
theorem pi_ok_3 : ∀ q ∈ zPIg 3, piOk q := by unfold piOk; decide +kernel
set_option maxRecDepth 100000 in
theorem pi_ok_4 : ∀ q ∈ zPIg 4, piOk q := by unfold piOk; decide +kernel
theorem pi_len : zPI.length = piP.length := by decide +kernel
theorem pi_cut : zPI.zip piP = zPIg 0 ++ (zPIg 1 ++ (zPIg 2 ++ (zPIg 3 ++ (zPIg 4)))) := by decide +kernel
theorem pi_ok : ∀ q ∈ zPI.zip piP, piOk q := by rw [pi_cut]; exact List.forall_mem_append.mpr ⟨pi_ok_0, List.forall_mem_append.mpr ⟨pi_ok_1, List.forall_mem_append.mpr ⟨pi_ok_2, List.forall_mem_append.mpr ⟨pi_ok_3, pi_ok_4⟩⟩⟩⟩
def pcP : List Nat := [563, 565, 627, 293, 775, 790, 792, 280, 557, 650, 729, 387, 139, 478, 141, 321, 859, 99, 133, 93, 272, 274, 287, 315, 330, 359, 381, 974, 85, 1004]
theorem pc_ok : ∀ q ∈ zPC.zip pcP, lw_tbl[q.2]? = some (.classLink (cNm q.1.1) q.1.2.1 (cNm q.1.2.2)) := by decide +kernel
theorem pc_len : zPC.length = pcP.length := by decide +kernel
def pkP : List Nat := [1010, 1011, 229]
theorem pk_ok : ∀ q ∈ zPK.zip pkP, lw_tbl[q.2]? = some (.constant (cNm q.1.1) q.1.2.1 (Int32.ofInt q.1.2.2)) := by decide +kernel
theorem pk_len : zPK.length = pkP.length := by decide +kernel
def plP : List Nat := [771, 772, 941, 972, 1195, 1307, 1308, 1437, 689, 690, 691, 1451]
theorem pl_ok : ∀ q ∈ zPL.zip plP, lw_tbl[q.2]? = some (.constantLong (cNm q.1.1) q.1.2.1 (Int64.ofInt q.1.2.2)) := by decide +kernel
theorem pl_len : zPL.length = plP.length := by decide +kernel
def anP : List Nat := [139, 259, 267, 387, 565]
theorem an_ok : zAN = anP.filterMap (fun i => lw_tbl[i]?) := by decide +kernel
theorem w_stat : .fieldLink "java/util/ArrayList" 39 "java/util/ArrayList" "DEFAULTCAPACITY_EMPTY_ELEMENTDATA" "[Ljava/lang/Object;" ∈ bigW := bw (i := 111) (by decide +kernel) (by decide +kernel)
theorem w_ldcM : .classLink "java/util/Arrays" 110 "[Ljava/lang/Object;" ∈ bigW := bw (i := 257) (by decide +kernel) (by decide +kernel)
theorem w_mna : .classLink "BuildCache$Log" 11 "[[I" ∈ bigW := bw (i := 336) (by decide +kernel) (by decide +kernel)
theorem w_aI : .arrayClass .int ∈ bigW := bw (i := 162) (by decide +kernel) (by decide +kernel)
theorem w_aZ : .arrayClass .boolean ∈ bigW := bw (i := 1175) (by decide +kernel) (by decide +kernel)
theorem w_gcS : .selects "[Ljava/lang/Object;" gcY gcY ∈ bigW := bw (i := 1467) (by decide +kernel) (by decide +kernel)
theorem w_gcI : .instanceMethod gcY ∈ bigW := bw (i := 237) (by decide +kernel) (by decide +kernel)
theorem w_gcN : .native gcY ∈ bigW := bw (i := 253) (by decide +kernel) (by decide +kernel)
theorem w_acN : .native arraycopyName ∈ bigW := bw (i := 265) (by decide +kernel) (by decide +kernel)
theorem w_acS : .static arraycopyName ∈ bigW := bw (i := 264) (by decide +kernel) (by decide +kernel)
theorem w_acI : .initialized "java/lang/System" ∈ bigW := bw (i := 72) (by decide +kernel) (by decide +kernel)
theorem w_oiI : .instanceMethod objectInit ∈ bigW := bw (i := 91) (by decide +kernel) (by decide +kernel)
theorem w_oiC : .code objectInit ⟨#[0xb1]⟩ 1 none ∈ bigW := bw (i := 92) (by decide +kernel) (by decide +kernel)
theorem w_maxS : .static Lib.Math.max.name ∈ bigW := bw (i := 227) (by decide +kernel) (by decide +kernel)
theorem w_maxC : .code Lib.Math.max.name Lib.Math.max.code 2 (some .int) ∈ bigW := bw (i := 228) (by decide +kernel) (by decide +kernel)
theorem w_minS : .static Lib.Math.min.name ∈ bigW := bw (i := 261) (by decide +kernel) (by decide +kernel)
theorem w_minC : .code Lib.Math.min.name Lib.Math.min.code 2 (some .int) ∈ bigW := bw (i := 262) (by decide +kernel) (by decide +kernel)
theorem w_mathI : .initialized "java/lang/Math" ∈ bigW := bw (i := 70) (by decide +kernel) (by decide +kernel)
/-- a store into a final field stands in a constructor of the field's own class -/
def zPut (t : zR) (e : zE) : Bool :=
  match e with
  | (_, .putfield _, x, y, _) => decide (((cRow x).2.1 y).2.2.2 = false ∨ (((cRow x).2.1 y).2.2.2 = true ∧ ((cRow x).2.1 y).1 = cNm t.2.2.2.2.1 ∧ t.1.name = "<init>"))
  | _ => true
set_option maxRecDepth 100000 in
theorem zPut_ok : ∀ t ∈ zT, t.2.2.2.2.2.2.2.all (zPut t) = true := by decide +kernel
theorem zPut_at {m pc : Nat} {r : Instr × Nat × Nat × Int} (h : zcode m pc = some r) : zPut (mE m) (pc, r) = true :=
  List.all_eq_true.mp (zPut_ok _ (mE_mem h)) _ (zFind_mem h)
