/-- a field's link: its word; its class and place; by which class it is spelt -/
def pfOk (q : Nat × Nat × Nat × Nat × Nat) : Prop := .fieldLink (cNm q.1) q.2.1 (cNm q.2.2.2.2) ((cRow q.2.2.1).2.1 q.2.2.2.1).2.1 ((cRow q.2.2.1).2.1 q.2.2.2.1).2.2.1 ∈ bigW ∧ q.2.2.1 < 14 ∧ q.2.2.2.1 < (cRow q.2.2.1).2.2 ∧ (cNm q.2.2.2.2 = ((cRow q.2.2.1).2.1 q.2.2.2.1).1 ∨ .sameField (cNm q.2.2.2.2) ((cRow q.2.2.1).2.1 q.2.2.2.1).1 ((cRow q.2.2.1).2.1 q.2.2.2.1).2.1 ((cRow q.2.2.1).2.1 q.2.2.2.1).2.2.1 ∈ bigW)
theorem pfi_0 : pfOk (0, 12, 0, 0, 0) := ⟨(tm3 (i := 27) rfl rfl), by decide, by decide, Or.inl rfl⟩
theorem pfi_1 : pfOk (0, 18, 0, 1, 0) := ⟨(tm3 (i := 32) rfl rfl), by decide, by decide, Or.inl rfl⟩
theorem pfi_2 : pfOk (0, 21, 0, 2, 0) := ⟨(tm3 (i := 36) rfl rfl), by decide, by decide, Or.inl rfl⟩
theorem pfi_3 : pfOk (0, 25, 0, 3, 0) := ⟨(tm3 (i := 39) rfl rfl), by decide, by decide, Or.inl rfl⟩
theorem pfi_4 : pfOk (0, 30, 0, 4, 0) := ⟨(tm3 (i := 42) rfl rfl), by decide, by decide, Or.inl rfl⟩
theorem pfi_5 : pfOk (0, 34, 0, 5, 0) := ⟨(tm3 (i := 44) rfl rfl), by decide, by decide, Or.inl rfl⟩
theorem pfi_6 : pfOk (0, 38, 0, 6, 0) := ⟨(tm3 (i := 48) rfl rfl), by decide, by decide, Or.inl rfl⟩
theorem pfi_7 : pfOk (0, 53, 8, 0, 8) := ⟨(tm1 (i := 103) rfl rfl), by decide, by decide, Or.inl rfl⟩
theorem pfi_8 : pfOk (0, 63, 8, 4, 8) := ⟨(tm1 (i := 122) rfl rfl), by decide, by decide, Or.inl rfl⟩
theorem pfi_9 : pfOk (0, 67, 7, 0, 7) := ⟨(tm2 (i := 89) rfl rfl), by decide, by decide, Or.inl rfl⟩
theorem pfi_10 : pfOk (1, 12, 1, 0, 1) := ⟨(tm1 (i := 234) rfl rfl), by decide, by decide, Or.inl rfl⟩
theorem pfi_11 : pfOk (1, 18, 1, 1, 1) := ⟨(tm1 (i := 236) rfl rfl), by decide, by decide, Or.inl rfl⟩
theorem pfi_12 : pfOk (1, 21, 1, 2, 1) := ⟨(tm1 (i := 237) rfl rfl), by decide, by decide, Or.inl rfl⟩
theorem pfi_13 : pfOk (1, 25, 1, 3, 1) := ⟨(tm1 (i := 239) rfl rfl), by decide, by decide, Or.inl rfl⟩
theorem pfi_14 : pfOk (1, 28, 1, 4, 1) := ⟨(tm2 (i := 1) rfl rfl), by decide, by decide, Or.inl rfl⟩
theorem pfi_15 : pfOk (1, 50, 3, 2, 3) := ⟨(tm4 (i := 19) rfl rfl), by decide, by decide, Or.inl rfl⟩
theorem pfi_16 : pfOk (1, 53, 3, 0, 3) := ⟨(tm4 (i := 14) rfl rfl), by decide, by decide, Or.inl rfl⟩
theorem pfi_17 : pfOk (1, 68, 3, 3, 3) := ⟨(tm4 (i := 22) rfl rfl), by decide, by decide, Or.inl rfl⟩
theorem pfi_18 : pfOk (1, 80, 3, 1, 3) := ⟨(tm4 (i := 16) rfl rfl), by decide, by decide, Or.inl rfl⟩
theorem pfi_19 : pfOk (2, 9, 2, 0, 2) := ⟨(tm1 (i := 87) rfl rfl), by decide, by decide, Or.inl rfl⟩
theorem pfi_20 : pfOk (2, 15, 2, 1, 2) := ⟨(tm1 (i := 90) rfl rfl), by decide, by decide, Or.inl rfl⟩
theorem pfi_21 : pfOk (3, 10, 3, 0, 3) := ⟨(tm4 (i := 13) rfl rfl), by decide, by decide, Or.inl rfl⟩
theorem pfi_22 : pfOk (3, 19, 3, 1, 3) := ⟨(tm4 (i := 15) rfl rfl), by decide, by decide, Or.inl rfl⟩
theorem pfi_23 : pfOk (3, 23, 3, 2, 3) := ⟨(tm4 (i := 18) rfl rfl), by decide, by decide, Or.inl rfl⟩
theorem pfi_24 : pfOk (3, 27, 3, 3, 3) := ⟨(tm4 (i := 21) rfl rfl), by decide, by decide, Or.inl rfl⟩
theorem pfi_25 : pfOk (4, 12, 4, 0, 4) := ⟨(tm1 (i := 221) rfl rfl), by decide, by decide, Or.inl rfl⟩
theorem pfi_26 : pfOk (4, 33, 0, 6, 0) := ⟨(tm3 (i := 49) rfl rfl), by decide, by decide, Or.inl rfl⟩
theorem pfi_27 : pfOk (4, 37, 0, 0, 0) := ⟨(tm3 (i := 30) rfl rfl), by decide, by decide, Or.inl rfl⟩
theorem pfi_28 : pfOk (4, 54, 8, 0, 8) := ⟨(tm1 (i := 105) rfl rfl), by decide, by decide, Or.inl rfl⟩
theorem pfi_29 : pfOk (4, 62, 8, 1, 8) := ⟨(tm1 (i := 109) rfl rfl), by decide, by decide, Or.inl rfl⟩
theorem pfi_30 : pfOk (5, 9, 5, 0, 5) := ⟨(tm2 (i := 64) rfl rfl), by decide, by decide, Or.inl rfl⟩
theorem pfi_31 : pfOk (5, 15, 5, 1, 5) := ⟨(tm2 (i := 65) rfl rfl), by decide, by decide, Or.inl rfl⟩
theorem pfi_32 : pfOk (5, 18, 5, 2, 5) := ⟨(tm2 (i := 66) rfl rfl), by decide, by decide, Or.inl rfl⟩
theorem pfi_33 : pfOk (5, 22, 5, 3, 5) := ⟨(tm2 (i := 67) rfl rfl), by decide, by decide, Or.inl rfl⟩
theorem pfi_34 : pfOk (5, 25, 5, 4, 5) := ⟨(tm2 (i := 68) rfl rfl), by decide, by decide, Or.inl rfl⟩
theorem pfi_35 : pfOk (5, 28, 0, 1, 0) := ⟨(tm3 (i := 34) rfl rfl), by decide, by decide, Or.inl rfl⟩
theorem pfi_36 : pfOk (5, 43, 0, 5, 0) := ⟨(tm3 (i := 45) rfl rfl), by decide, by decide, Or.inl rfl⟩
theorem pfi_37 : pfOk (5, 46, 0, 2, 0) := ⟨(tm3 (i := 37) rfl rfl), by decide, by decide, Or.inl rfl⟩
theorem pfi_38 : pfOk (5, 47, 0, 3, 0) := ⟨(tm3 (i := 40) rfl rfl), by decide, by decide, Or.inl rfl⟩
theorem pfi_39 : pfOk (5, 50, 0, 0, 0) := ⟨(tm3 (i := 28) rfl rfl), by decide, by decide, Or.inl rfl⟩
theorem pfi_40 : pfOk (5, 63, 8, 3, 8) := ⟨(tm1 (i := 117) rfl rfl), by decide, by decide, Or.inl rfl⟩
theorem pfi_41 : pfOk (5, 70, 8, 4, 8) := ⟨(tm1 (i := 120) rfl rfl), by decide, by decide, Or.inl rfl⟩
theorem pfi_42 : pfOk (5, 82, 8, 5, 8) := ⟨(tm1 (i := 126) rfl rfl), by decide, by decide, Or.inl rfl⟩
theorem pfi_43 : pfOk (5, 91, 8, 2, 8) := ⟨(tm1 (i := 112) rfl rfl), by decide, by decide, Or.inl rfl⟩
theorem pfi_44 : pfOk (5, 94, 2, 1, 2) := ⟨(tm1 (i := 95) rfl rfl), by decide, by decide, Or.inl rfl⟩
theorem pfi_45 : pfOk (5, 95, 2, 0, 2) := ⟨(tm1 (i := 88) rfl rfl), by decide, by decide, Or.inl rfl⟩
theorem pfi_46 : pfOk (6, 13, 6, 0, 6) := ⟨(tm2 (i := 37) rfl rfl), by decide, by decide, Or.inl rfl⟩
theorem pfi_47 : pfOk (6, 16, 6, 1, 6) := ⟨(tm2 (i := 39) rfl rfl), by decide, by decide, Or.inl rfl⟩
theorem pfi_48 : pfOk (6, 20, 6, 2, 6) := ⟨(tm2 (i := 41) rfl rfl), by decide, by decide, Or.inl rfl⟩
theorem pfi_49 : pfOk (6, 23, 6, 3, 6) := ⟨(tm2 (i := 43) rfl rfl), by decide, by decide, Or.inl rfl⟩
theorem pfi_50 : pfOk (6, 26, 6, 4, 6) := ⟨(tm2 (i := 45) rfl rfl), by decide, by decide, Or.inl rfl⟩
theorem pfi_51 : pfOk (7, 11, 7, 0, 7) := ⟨(tm2 (i := 88) rfl rfl), by decide, by decide, Or.inl rfl⟩
theorem pfi_52 : pfOk (7, 17, 7, 1, 7) := ⟨(tm2 (i := 91) rfl rfl), by decide, by decide, Or.inl rfl⟩
theorem pfi_53 : pfOk (7, 21, 7, 2, 7) := ⟨(tm2 (i := 94) rfl rfl), by decide, by decide, Or.inl rfl⟩
theorem pfi_54 : pfOk (7, 35, 2, 1, 2) := ⟨(tm1 (i := 94) rfl rfl), by decide, by decide, Or.inl rfl⟩
theorem pfi_55 : pfOk (8, 11, 8, 4, 8) := ⟨(tm1 (i := 119) rfl rfl), by decide, by decide, Or.inl rfl⟩
theorem pfi_56 : pfOk (8, 20, 8, 5, 8) := ⟨(tm1 (i := 125) rfl rfl), by decide, by decide, Or.inl rfl⟩
theorem pfi_57 : pfOk (8, 24, 8, 6, 8) := ⟨(tm1 (i := 128) rfl rfl), by decide, by decide, Or.inl rfl⟩
theorem pfi_58 : pfOk (8, 28, 8, 0, 8) := ⟨(tm1 (i := 102) rfl rfl), by decide, by decide, Or.inl rfl⟩
theorem pfi_59 : pfOk (8, 31, 8, 1, 8) := ⟨(tm1 (i := 106) rfl rfl), by decide, by decide, Or.inl rfl⟩
theorem pfi_60 : pfOk (8, 34, 8, 2, 8) := ⟨(tm1 (i := 110) rfl rfl), by decide, by decide, Or.inl rfl⟩
theorem pfi_61 : pfOk (8, 37, 8, 3, 8) := ⟨(tm1 (i := 115) rfl rfl), by decide, by decide, Or.inl rfl⟩
theorem pfi_62 : pfOk (8, 54, 2, 1, 2) := ⟨(tm1 (i := 93) rfl rfl), by decide, by decide, Or.inl rfl⟩
theorem pfi_63 : pfOk (9, 12, 9, 0, 9) := ⟨(tm2 (i := 22) rfl rfl), by decide, by decide, Or.inl rfl⟩
theorem pfi_64 : pfOk (9, 18, 9, 1, 9) := ⟨(tm2 (i := 23) rfl rfl), by decide, by decide, Or.inl rfl⟩
theorem pfi_65 : pfOk (9, 22, 0, 1, 0) := ⟨(tm3 (i := 33) rfl rfl), by decide, by decide, Or.inl rfl⟩
theorem pfi_66 : pfOk (9, 40, 2, 1, 2) := ⟨(tm1 (i := 92) rfl rfl), by decide, by decide, Or.inl rfl⟩
theorem pfi_67 : pfOk (9, 43, 0, 5, 0) := ⟨(tm3 (i := 46) rfl rfl), by decide, by decide, Or.inl rfl⟩
theorem pfi_68 : pfOk (9, 53, 0, 3, 0) := ⟨(tm3 (i := 41) rfl rfl), by decide, by decide, Or.inl rfl⟩
theorem pfi_69 : pfOk (9, 57, 0, 2, 0) := ⟨(tm3 (i := 38) rfl rfl), by decide, by decide, Or.inl rfl⟩
theorem pfi_70 : pfOk (9, 107, 0, 0, 0) := ⟨(tm3 (i := 29) rfl rfl), by decide, by decide, Or.inl rfl⟩
theorem pfi_71 : pfOk (9, 116, 8, 3, 8) := ⟨(tm1 (i := 118) rfl rfl), by decide, by decide, Or.inl rfl⟩
theorem pfi_72 : pfOk (9, 119, 8, 4, 8) := ⟨(tm1 (i := 123) rfl rfl), by decide, by decide, Or.inl rfl⟩
theorem pfi_73 : pfOk (9, 127, 8, 5, 8) := ⟨(tm1 (i := 127) rfl rfl), by decide, by decide, Or.inl rfl⟩
theorem pfi_74 : pfOk (9, 130, 8, 2, 8) := ⟨(tm1 (i := 114) rfl rfl), by decide, by decide, Or.inl rfl⟩
theorem pfi_75 : pfOk (9, 133, 7, 1, 7) := ⟨(tm2 (i := 92) rfl rfl), by decide, by decide, Or.inl rfl⟩
theorem pfi_76 : pfOk (9, 135, 7, 0, 7) := ⟨(tm2 (i := 90) rfl rfl), by decide, by decide, Or.inl rfl⟩
theorem pfi_77 : pfOk (10, 12, 10, 0, 10) := ⟨(tm1 (i := 207) rfl rfl), by decide, by decide, Or.inl rfl⟩
theorem pfi_78 : pfOk (10, 41, 8, 1, 8) := ⟨(tm1 (i := 108) rfl rfl), by decide, by decide, Or.inl rfl⟩
theorem pfi_79 : pfOk (10, 45, 8, 2, 8) := ⟨(tm1 (i := 113) rfl rfl), by decide, by decide, Or.inl rfl⟩
theorem pfi_80 : pfOk (10, 56, 8, 0, 8) := ⟨(tm1 (i := 104) rfl rfl), by decide, by decide, Or.inl rfl⟩
theorem pfi_81 : pfOk (10, 59, 8, 6, 8) := ⟨(tm1 (i := 130) rfl rfl), by decide, by decide, Or.inl rfl⟩
theorem pfi_82 : pfOk (10, 62, 8, 4, 8) := ⟨(tm1 (i := 124) rfl rfl), by decide, by decide, Or.inl rfl⟩
theorem pfi_83 : pfOk (11, 12, 11, 0, 11) := ⟨(tm2 (i := 103) rfl rfl), by decide, by decide, Or.inl rfl⟩
theorem pfi_84 : pfOk (11, 19, 11, 1, 11) := ⟨(tm2 (i := 104) rfl rfl), by decide, by decide, Or.inl rfl⟩
theorem pfi_85 : pfOk (11, 26, 11, 2, 11) := ⟨(tm2 (i := 105) rfl rfl), by decide, by decide, Or.inl rfl⟩
theorem pfi_86 : pfOk (11, 33, 11, 3, 11) := ⟨(tm2 (i := 106) rfl rfl), by decide, by decide, Or.inl rfl⟩
theorem pfi_87 : pfOk (11, 40, 11, 4, 11) := ⟨(tm2 (i := 107) rfl rfl), by decide, by decide, Or.inl rfl⟩
theorem pfi_88 : pfOk (11, 47, 11, 5, 11) := ⟨(tm2 (i := 108) rfl rfl), by decide, by decide, Or.inl rfl⟩
theorem pfi_89 : pfOk (11, 54, 11, 6, 11) := ⟨(tm2 (i := 109) rfl rfl), by decide, by decide, Or.inl rfl⟩
theorem pfi_90 : pfOk (11, 61, 11, 7, 11) := ⟨(tm2 (i := 110) rfl rfl), by decide, by decide, Or.inl rfl⟩
theorem pfi_91 : pfOk (11, 65, 2, 1, 2) := ⟨(tm1 (i := 91) rfl rfl), by decide, by decide, Or.inl rfl⟩
theorem pfi_92 : pfOk (11, 77, 8, 3, 8) := ⟨(tm1 (i := 116) rfl rfl), by decide, by decide, Or.inl rfl⟩
theorem pfi_93 : pfOk (11, 94, 8, 1, 8) := ⟨(tm1 (i := 107) rfl rfl), by decide, by decide, Or.inl rfl⟩
theorem pfi_94 : pfOk (11, 97, 8, 2, 8) := ⟨(tm1 (i := 111) rfl rfl), by decide, by decide, Or.inl rfl⟩
theorem pfi_95 : pfOk (11, 100, 8, 6, 8) := ⟨(tm1 (i := 129) rfl rfl), by decide, by decide, Or.inl rfl⟩
theorem pfi_96 : pfOk (11, 110, 8, 4, 8) := ⟨(tm1 (i := 121) rfl rfl), by decide, by decide, Or.inl rfl⟩
theorem pfi_97 : pfOk (11, 127, 2, 0, 2) := ⟨(tm1 (i := 89) rfl rfl), by decide, by decide, Or.inl rfl⟩
theorem pfi_98 : pfOk (11, 147, 0, 0, 0) := ⟨(tm3 (i := 31) rfl rfl), by decide, by decide, Or.inl rfl⟩
theorem pfi_99 : pfOk (11, 163, 0, 1, 0) := ⟨(tm3 (i := 35) rfl rfl), by decide, by decide, Or.inl rfl⟩
theorem pfi_100 : pfOk (11, 176, 0, 5, 0) := ⟨(tm3 (i := 47) rfl rfl), by decide, by decide, Or.inl rfl⟩
theorem pfi_101 : pfOk (11, 179, 0, 6, 0) := ⟨(tm3 (i := 50) rfl rfl), by decide, by decide, Or.inl rfl⟩
theorem pfi_102 : pfOk (11, 204, 6, 2, 6) := ⟨(tm2 (i := 42) rfl rfl), by decide, by decide, Or.inl rfl⟩
theorem pfi_103 : pfOk (11, 219, 6, 1, 6) := ⟨(tm2 (i := 40) rfl rfl), by decide, by decide, Or.inl rfl⟩
theorem pfi_104 : pfOk (11, 220, 6, 0, 6) := ⟨(tm2 (i := 38) rfl rfl), by decide, by decide, Or.inl rfl⟩
theorem pfi_105 : pfOk (11, 228, 0, 4, 0) := ⟨(tm3 (i := 43) rfl rfl), by decide, by decide, Or.inl rfl⟩
theorem pfi_106 : pfOk (11, 247, 1, 2, 1) := ⟨(tm1 (i := 238) rfl rfl), by decide, by decide, Or.inl rfl⟩
theorem pfi_107 : pfOk (11, 253, 1, 0, 1) := ⟨(tm1 (i := 235) rfl rfl), by decide, by decide, Or.inl rfl⟩
theorem pfi_108 : pfOk (11, 264, 3, 2, 3) := ⟨(tm4 (i := 20) rfl rfl), by decide, by decide, Or.inl rfl⟩
theorem pfi_109 : pfOk (11, 266, 3, 1, 3) := ⟨(tm4 (i := 17) rfl rfl), by decide, by decide, Or.inl rfl⟩
theorem pfi_110 : pfOk (11, 270, 7, 2, 7) := ⟨(tm2 (i := 95) rfl rfl), by decide, by decide, Or.inl rfl⟩
theorem pfi_111 : pfOk (11, 273, 3, 3, 3) := ⟨(tm4 (i := 23) rfl rfl), by decide, by decide, Or.inl rfl⟩
theorem pfi_112 : pfOk (11, 276, 7, 1, 7) := ⟨(tm2 (i := 93) rfl rfl), by decide, by decide, Or.inl rfl⟩
theorem pfi_113 : pfOk (11, 281, 1, 3, 1) := ⟨(tm2 (i := 0) rfl rfl), by decide, by decide, Or.inl rfl⟩
theorem pfi_114 : pfOk (11, 284, 6, 3, 6) := ⟨(tm2 (i := 44) rfl rfl), by decide, by decide, Or.inl rfl⟩
theorem pfi_115 : pfOk (11, 285, 1, 4, 1) := ⟨(tm2 (i := 2) rfl rfl), by decide, by decide, Or.inl rfl⟩
theorem pfi_116 : pfOk (11, 288, 6, 4, 6) := ⟨(tm2 (i := 46) rfl rfl), by decide, by decide, Or.inl rfl⟩
theorem pfi_117 : pfOk (11, 294, 4, 0, 4) := ⟨(tm1 (i := 222) rfl rfl), by decide, by decide, Or.inl rfl⟩
theorem pfi_118 : pfOk (12, 7, 12, 0, 12) := ⟨(tm4 (i := 232) rfl rfl), by decide, by decide, Or.inl rfl⟩
theorem pfi_119 : pfOk (12, 13, 12, 1, 12) := ⟨(tm4 (i := 233) rfl rfl), by decide, by decide, Or.inl rfl⟩
theorem pfi_120 : pfOk (12, 17, 12, 2, 12) := ⟨(tm4 (i := 234) rfl rfl), by decide, by decide, Or.inl rfl⟩
theorem pfi_121 : pfOk (12, 20, 12, 3, 12) := ⟨(tm4 (i := 235) rfl rfl), by decide, by decide, Or.inl rfl⟩
theorem pfi_122 : pfOk (12, 24, 12, 4, 12) := ⟨(tm4 (i := 236) rfl rfl), by decide, by decide, Or.inl rfl⟩
theorem pfi_123 : pfOk (12, 27, 12, 5, 12) := ⟨(tm4 (i := 237) rfl rfl), by decide, by decide, Or.inl rfl⟩
theorem pfi_124 : pfOk (12, 30, 12, 6, 12) := ⟨(tm4 (i := 238) rfl rfl), by decide, by decide, Or.inl rfl⟩
theorem pfi_125 : pfOk (12, 33, 12, 7, 12) := ⟨(tm4 (i := 239) rfl rfl), by decide, by decide, Or.inl rfl⟩
theorem pfi_126 : pfOk (12, 36, 12, 10, 12) := ⟨(tm5 (i := 2) rfl rfl), by decide, by decide, Or.inl rfl⟩
theorem pfi_127 : pfOk (12, 39, 12, 11, 12) := ⟨(tm5 (i := 3) rfl rfl), by decide, by decide, Or.inl rfl⟩
theorem pfi_128 : pfOk (12, 42, 12, 12, 12) := ⟨(tm5 (i := 4) rfl rfl), by decide, by decide, Or.inl rfl⟩
theorem pfi_129 : pfOk (12, 45, 12, 13, 12) := ⟨(tm5 (i := 5) rfl rfl), by decide, by decide, Or.inl rfl⟩
theorem pfi_130 : pfOk (12, 48, 12, 14, 12) := ⟨(tm5 (i := 6) rfl rfl), by decide, by decide, Or.inl rfl⟩
theorem pfi_131 : pfOk (12, 51, 12, 15, 12) := ⟨(tm5 (i := 7) rfl rfl), by decide, by decide, Or.inl rfl⟩
theorem pfi_132 : pfOk (12, 54, 12, 16, 12) := ⟨(tm5 (i := 8) rfl rfl), by decide, by decide, Or.inl rfl⟩
theorem pfi_133 : pfOk (12, 57, 12, 17, 12) := ⟨(tm5 (i := 9) rfl rfl), by decide, by decide, Or.inl rfl⟩
theorem pfi_134 : pfOk (12, 61, 12, 18, 12) := ⟨(tm5 (i := 10) rfl rfl), by decide, by decide, Or.inl rfl⟩
theorem pfi_135 : pfOk (12, 64, 12, 19, 12) := ⟨(tm5 (i := 11) rfl rfl), by decide, by decide, Or.inl rfl⟩
theorem pfi_136 : pfOk (12, 67, 12, 20, 12) := ⟨(tm5 (i := 12) rfl rfl), by decide, by decide, Or.inl rfl⟩
theorem pfi_137 : pfOk (12, 70, 12, 22, 12) := ⟨(tm5 (i := 14) rfl rfl), by decide, by decide, Or.inl rfl⟩
theorem pfi_138 : pfOk (12, 73, 12, 23, 12) := ⟨(tm5 (i := 15) rfl rfl), by decide, by decide, Or.inl rfl⟩
theorem pfi_139 : pfOk (12, 77, 12, 24, 12) := ⟨(tm5 (i := 16) rfl rfl), by decide, by decide, Or.inl rfl⟩
theorem pfi_140 : pfOk (12, 80, 12, 25, 12) := ⟨(tm5 (i := 17) rfl rfl), by decide, by decide, Or.inl rfl⟩
theorem pfi_141 : pfOk (12, 83, 12, 26, 12) := ⟨(tm5 (i := 18) rfl rfl), by decide, by decide, Or.inl rfl⟩
theorem pfi_142 : pfOk (12, 86, 12, 27, 12) := ⟨(tm5 (i := 19) rfl rfl), by decide, by decide, Or.inl rfl⟩
theorem pfi_143 : pfOk (12, 89, 12, 28, 12) := ⟨(tm5 (i := 20) rfl rfl), by decide, by decide, Or.inl rfl⟩
theorem pfi_144 : pfOk (12, 92, 12, 29, 12) := ⟨(tm5 (i := 21) rfl rfl), by decide, by decide, Or.inl rfl⟩
theorem pfi_145 : pfOk (12, 95, 12, 30, 12) := ⟨(tm5 (i := 22) rfl rfl), by decide, by decide, Or.inl rfl⟩
theorem pfi_146 : pfOk (12, 98, 12, 31, 12) := ⟨(tm5 (i := 23) rfl rfl), by decide, by decide, Or.inl rfl⟩
theorem pfi_147 : pfOk (12, 101, 12, 33, 12) := ⟨(tm5 (i := 25) rfl rfl), by decide, by decide, Or.inl rfl⟩
theorem pfi_148 : pfOk (12, 104, 12, 34, 12) := ⟨(tm5 (i := 26) rfl rfl), by decide, by decide, Or.inl rfl⟩
theorem pfi_149 : pfOk (12, 107, 12, 35, 12) := ⟨(tm5 (i := 27) rfl rfl), by decide, by decide, Or.inl rfl⟩
theorem pfi_150 : pfOk (12, 110, 12, 36, 12) := ⟨(tm5 (i := 28) rfl rfl), by decide, by decide, Or.inl rfl⟩
theorem pfi_151 : pfOk (12, 113, 12, 41, 12) := ⟨(tm5 (i := 33) rfl rfl), by decide, by decide, Or.inl rfl⟩
theorem pfi_152 : pfOk (12, 116, 12, 42, 12) := ⟨(tm5 (i := 34) rfl rfl), by decide, by decide, Or.inl rfl⟩
theorem pfi_153 : pfOk (12, 119, 12, 44, 12) := ⟨(tm5 (i := 36) rfl rfl), by decide, by decide, Or.inl rfl⟩
theorem pfi_154 : pfOk (12, 122, 12, 45, 12) := ⟨(tm5 (i := 37) rfl rfl), by decide, by decide, Or.inl rfl⟩
theorem pfi_155 : pfOk (12, 125, 12, 47, 12) := ⟨(tm5 (i := 39) rfl rfl), by decide, by decide, Or.inl rfl⟩
theorem pfi_156 : pfOk (12, 128, 12, 50, 12) := ⟨(tm5 (i := 42) rfl rfl), by decide, by decide, Or.inl rfl⟩
theorem pfi_157 : pfOk (12, 131, 12, 51, 12) := ⟨(tm5 (i := 43) rfl rfl), by decide, by decide, Or.inl rfl⟩
theorem pfi_158 : pfOk (12, 134, 12, 52, 12) := ⟨(tm5 (i := 44) rfl rfl), by decide, by decide, Or.inl rfl⟩
theorem pfi_159 : pfOk (12, 137, 12, 53, 12) := ⟨(tm5 (i := 45) rfl rfl), by decide, by decide, Or.inl rfl⟩
theorem pfi_160 : pfOk (12, 144, 12, 9, 12) := ⟨(tm5 (i := 1) rfl rfl), by decide, by decide, Or.inl rfl⟩
theorem pfi_161 : pfOk (12, 151, 12, 8, 12) := ⟨(tm5 (i := 0) rfl rfl), by decide, by decide, Or.inl rfl⟩
theorem pfi_162 : pfOk (12, 187, 12, 43, 12) := ⟨(tm5 (i := 35) rfl rfl), by decide, by decide, Or.inl rfl⟩
theorem pfi_163 : pfOk (12, 193, 12, 46, 12) := ⟨(tm5 (i := 38) rfl rfl), by decide, by decide, Or.inl rfl⟩
theorem pfi_164 : pfOk (12, 225, 12, 48, 12) := ⟨(tm5 (i := 40) rfl rfl), by decide, by decide, Or.inl rfl⟩
theorem pfi_165 : pfOk (12, 228, 12, 49, 12) := ⟨(tm5 (i := 41) rfl rfl), by decide, by decide, Or.inl rfl⟩
theorem pfi_166 : pfOk (12, 268, 12, 21, 12) := ⟨(tm5 (i := 13) rfl rfl), by decide, by decide, Or.inl rfl⟩
theorem pfi_167 : pfOk (12, 277, 12, 39, 12) := ⟨(tm5 (i := 31) rfl rfl), by decide, by decide, Or.inl rfl⟩
theorem pfi_168 : pfOk (12, 284, 12, 32, 12) := ⟨(tm5 (i := 24) rfl rfl), by decide, by decide, Or.inl rfl⟩
theorem pfi_169 : pfOk (12, 299, 12, 37, 12) := ⟨(tm5 (i := 29) rfl rfl), by decide, by decide, Or.inl rfl⟩
theorem pfi_170 : pfOk (12, 305, 12, 38, 12) := ⟨(tm5 (i := 30) rfl rfl), by decide, by decide, Or.inl rfl⟩
theorem pfi_171 : pfOk (12, 311, 12, 40, 12) := ⟨(tm5 (i := 32) rfl rfl), by decide, by decide, Or.inl rfl⟩
theorem pfi_172 : pfOk (13, 9, 13, 1, 13) := ⟨(tm1 (i := 52) rfl rfl), by decide, by decide, Or.inl rfl⟩
theorem pfi_173 : pfOk (13, 48, 13, 2, 13) := ⟨(tm1 (i := 53) rfl rfl), by decide, by decide, Or.inl rfl⟩
theorem pfi_174 : pfOk (13, 63, 13, 0, 13) := ⟨(tm1 (i := 55) rfl rfl), by decide, by decide, Or.inr (tm1 (i := 56) rfl rfl)⟩
theorem pfi_175 : pfOk (14, 7, 13, 0, 14) := ⟨(tm1 (i := 54) rfl rfl), by decide, by decide, Or.inl rfl⟩
theorem pf_ok_g0 : ∀ q ∈ (zPF.drop 0).take 25, pfOk q := List.forall_mem_cons.mpr ⟨pfi_0, List.forall_mem_cons.mpr ⟨pfi_1, List.forall_mem_cons.mpr ⟨pfi_2, List.forall_mem_cons.mpr ⟨pfi_3, List.forall_mem_cons.mpr ⟨pfi_4, List.forall_mem_cons.mpr ⟨pfi_5, List.forall_mem_cons.mpr ⟨pfi_6, List.forall_mem_cons.mpr ⟨pfi_7, List.forall_mem_cons.mpr ⟨pfi_8, List.forall_mem_cons.mpr ⟨pfi_9, List.forall_mem_cons.mpr ⟨pfi_10, List.forall_mem_cons.mpr ⟨pfi_11, List.forall_mem_cons.mpr ⟨pfi_12, List.forall_mem_cons.mpr ⟨pfi_13, List.forall_mem_cons.mpr ⟨pfi_14, List.forall_mem_cons.mpr ⟨pfi_15, List.forall_mem_cons.mpr ⟨pfi_16, List.forall_mem_cons.mpr ⟨pfi_17, List.forall_mem_cons.mpr ⟨pfi_18, List.forall_mem_cons.mpr ⟨pfi_19, List.forall_mem_cons.mpr ⟨pfi_20, List.forall_mem_cons.mpr ⟨pfi_21, List.forall_mem_cons.mpr ⟨pfi_22, List.forall_mem_cons.mpr ⟨pfi_23, List.forall_mem_cons.mpr ⟨pfi_24, fun _ h => absurd h List.not_mem_nil⟩⟩⟩⟩⟩⟩⟩⟩⟩⟩⟩⟩⟩⟩⟩⟩⟩⟩⟩⟩⟩⟩⟩⟩⟩
theorem pf_ok_g1 : ∀ q ∈ (zPF.drop 25).take 25, pfOk q := List.forall_mem_cons.mpr ⟨pfi_25, List.forall_mem_cons.mpr ⟨pfi_26, List.forall_mem_cons.mpr ⟨pfi_27, List.forall_mem_cons.mpr ⟨pfi_28, List.forall_mem_cons.mpr ⟨pfi_29, List.forall_mem_cons.mpr ⟨pfi_30, List.forall_mem_cons.mpr ⟨pfi_31, List.forall_mem_cons.mpr ⟨pfi_32, List.forall_mem_cons.mpr ⟨pfi_33, List.forall_mem_cons.mpr ⟨pfi_34, List.forall_mem_cons.mpr ⟨pfi_35, List.forall_mem_cons.mpr ⟨pfi_36, List.forall_mem_cons.mpr ⟨pfi_37, List.forall_mem_cons.mpr ⟨pfi_38, List.forall_mem_cons.mpr ⟨pfi_39, List.forall_mem_cons.mpr ⟨pfi_40, List.forall_mem_cons.mpr ⟨pfi_41, List.forall_mem_cons.mpr ⟨pfi_42, List.forall_mem_cons.mpr ⟨pfi_43, List.forall_mem_cons.mpr ⟨pfi_44, List.forall_mem_cons.mpr ⟨pfi_45, List.forall_mem_cons.mpr ⟨pfi_46, List.forall_mem_cons.mpr ⟨pfi_47, List.forall_mem_cons.mpr ⟨pfi_48, List.forall_mem_cons.mpr ⟨pfi_49, fun _ h => absurd h List.not_mem_nil⟩⟩⟩⟩⟩⟩⟩⟩⟩⟩⟩⟩⟩⟩⟩⟩⟩⟩⟩⟩⟩⟩⟩⟩⟩
theorem pf_ok_g2 : ∀ q ∈ (zPF.drop 50).take 25, pfOk q := List.forall_mem_cons.mpr ⟨pfi_50, List.forall_mem_cons.mpr ⟨pfi_51, List.forall_mem_cons.mpr ⟨pfi_52, List.forall_mem_cons.mpr ⟨pfi_53, List.forall_mem_cons.mpr ⟨pfi_54, List.forall_mem_cons.mpr ⟨pfi_55, List.forall_mem_cons.mpr ⟨pfi_56, List.forall_mem_cons.mpr ⟨pfi_57, List.forall_mem_cons.mpr ⟨pfi_58, List.forall_mem_cons.mpr ⟨pfi_59, List.forall_mem_cons.mpr ⟨pfi_60, List.forall_mem_cons.mpr ⟨pfi_61, List.forall_mem_cons.mpr ⟨pfi_62, List.forall_mem_cons.mpr ⟨pfi_63, List.forall_mem_cons.mpr ⟨pfi_64, List.forall_mem_cons.mpr ⟨pfi_65, List.forall_mem_cons.mpr ⟨pfi_66, List.forall_mem_cons.mpr ⟨pfi_67, List.forall_mem_cons.mpr ⟨pfi_68, List.forall_mem_cons.mpr ⟨pfi_69, List.forall_mem_cons.mpr ⟨pfi_70, List.forall_mem_cons.mpr ⟨pfi_71, List.forall_mem_cons.mpr ⟨pfi_72, List.forall_mem_cons.mpr ⟨pfi_73, List.forall_mem_cons.mpr ⟨pfi_74, fun _ h => absurd h List.not_mem_nil⟩⟩⟩⟩⟩⟩⟩⟩⟩⟩⟩⟩⟩⟩⟩⟩⟩⟩⟩⟩⟩⟩⟩⟩⟩
theorem pf_ok_g3 : ∀ q ∈ (zPF.drop 75).take 25, pfOk q := List.forall_mem_cons.mpr ⟨pfi_75, List.forall_mem_cons.mpr ⟨pfi_76, List.forall_mem_cons.mpr ⟨pfi_77, List.forall_mem_cons.mpr ⟨pfi_78, List.forall_mem_cons.mpr ⟨pfi_79, List.forall_mem_cons.mpr ⟨pfi_80, List.forall_mem_cons.mpr ⟨pfi_81, List.forall_mem_cons.mpr ⟨pfi_82, List.forall_mem_cons.mpr ⟨pfi_83, List.forall_mem_cons.mpr ⟨pfi_84, List.forall_mem_cons.mpr ⟨pfi_85, List.forall_mem_cons.mpr ⟨pfi_86, List.forall_mem_cons.mpr ⟨pfi_87, List.forall_mem_cons.mpr ⟨pfi_88, List.forall_mem_cons.mpr ⟨pfi_89, List.forall_mem_cons.mpr ⟨pfi_90, List.forall_mem_cons.mpr ⟨pfi_91, List.forall_mem_cons.mpr ⟨pfi_92, List.forall_mem_cons.mpr ⟨pfi_93, List.forall_mem_cons.mpr ⟨pfi_94, List.forall_mem_cons.mpr ⟨pfi_95, List.forall_mem_cons.mpr ⟨pfi_96, List.forall_mem_cons.mpr ⟨pfi_97, List.forall_mem_cons.mpr ⟨pfi_98, List.forall_mem_cons.mpr ⟨pfi_99, fun _ h => absurd h List.not_mem_nil⟩⟩⟩⟩⟩⟩⟩⟩⟩⟩⟩⟩⟩⟩⟩⟩⟩⟩⟩⟩⟩⟩⟩⟩⟩
theorem pf_ok_g4 : ∀ q ∈ (zPF.drop 100).take 25, pfOk q := List.forall_mem_cons.mpr ⟨pfi_100, List.forall_mem_cons.mpr ⟨pfi_101, List.forall_mem_cons.mpr ⟨pfi_102, List.forall_mem_cons.mpr ⟨pfi_103, List.forall_mem_cons.mpr ⟨pfi_104, List.forall_mem_cons.mpr ⟨pfi_105, List.forall_mem_cons.mpr ⟨pfi_106, List.forall_mem_cons.mpr ⟨pfi_107, List.forall_mem_cons.mpr ⟨pfi_108, List.forall_mem_cons.mpr ⟨pfi_109, List.forall_mem_cons.mpr ⟨pfi_110, List.forall_mem_cons.mpr ⟨pfi_111, List.forall_mem_cons.mpr ⟨pfi_112, List.forall_mem_cons.mpr ⟨pfi_113, List.forall_mem_cons.mpr ⟨pfi_114, List.forall_mem_cons.mpr ⟨pfi_115, List.forall_mem_cons.mpr ⟨pfi_116, List.forall_mem_cons.mpr ⟨pfi_117, List.forall_mem_cons.mpr ⟨pfi_118, List.forall_mem_cons.mpr ⟨pfi_119, List.forall_mem_cons.mpr ⟨pfi_120, List.forall_mem_cons.mpr ⟨pfi_121, List.forall_mem_cons.mpr ⟨pfi_122, List.forall_mem_cons.mpr ⟨pfi_123, List.forall_mem_cons.mpr ⟨pfi_124, fun _ h => absurd h List.not_mem_nil⟩⟩⟩⟩⟩⟩⟩⟩⟩⟩⟩⟩⟩⟩⟩⟩⟩⟩⟩⟩⟩⟩⟩⟩⟩
theorem pf_ok_g5 : ∀ q ∈ (zPF.drop 125).take 25, pfOk q := List.forall_mem_cons.mpr ⟨pfi_125, List.forall_mem_cons.mpr ⟨pfi_126, List.forall_mem_cons.mpr ⟨pfi_127, List.forall_mem_cons.mpr ⟨pfi_128, List.forall_mem_cons.mpr ⟨pfi_129, List.forall_mem_cons.mpr ⟨pfi_130, List.forall_mem_cons.mpr ⟨pfi_131, List.forall_mem_cons.mpr ⟨pfi_132, List.forall_mem_cons.mpr ⟨pfi_133, List.forall_mem_cons.mpr ⟨pfi_134, List.forall_mem_cons.mpr ⟨pfi_135, List.forall_mem_cons.mpr ⟨pfi_136, List.forall_mem_cons.mpr ⟨pfi_137, List.forall_mem_cons.mpr ⟨pfi_138, List.forall_mem_cons.mpr ⟨pfi_139, List.forall_mem_cons.mpr ⟨pfi_140, List.forall_mem_cons.mpr ⟨pfi_141, List.forall_mem_cons.mpr ⟨pfi_142, List.forall_mem_cons.mpr ⟨pfi_143, List.forall_mem_cons.mpr ⟨pfi_144, List.forall_mem_cons.mpr ⟨pfi_145, List.forall_mem_cons.mpr ⟨pfi_146, List.forall_mem_cons.mpr ⟨pfi_147, List.forall_mem_cons.mpr ⟨pfi_148, List.forall_mem_cons.mpr ⟨pfi_149, fun _ h => absurd h List.not_mem_nil⟩⟩⟩⟩⟩⟩⟩⟩⟩⟩⟩⟩⟩⟩⟩⟩⟩⟩⟩⟩⟩⟩⟩⟩⟩
theorem pf_ok_g6 : ∀ q ∈ (zPF.drop 150).take 25, pfOk q := List.forall_mem_cons.mpr ⟨pfi_150, List.forall_mem_cons.mpr ⟨pfi_151, List.forall_mem_cons.mpr ⟨pfi_152, List.forall_mem_cons.mpr ⟨pfi_153, List.forall_mem_cons.mpr ⟨pfi_154, List.forall_mem_cons.mpr ⟨pfi_155, List.forall_mem_cons.mpr ⟨pfi_156, List.forall_mem_cons.mpr ⟨pfi_157, List.forall_mem_cons.mpr ⟨pfi_158, List.forall_mem_cons.mpr ⟨pfi_159, List.forall_mem_cons.mpr ⟨pfi_160, List.forall_mem_cons.mpr ⟨pfi_161, List.forall_mem_cons.mpr ⟨pfi_162, List.forall_mem_cons.mpr ⟨pfi_163, List.forall_mem_cons.mpr ⟨pfi_164, List.forall_mem_cons.mpr ⟨pfi_165, List.forall_mem_cons.mpr ⟨pfi_166, List.forall_mem_cons.mpr ⟨pfi_167, List.forall_mem_cons.mpr ⟨pfi_168, List.forall_mem_cons.mpr ⟨pfi_169, List.forall_mem_cons.mpr ⟨pfi_170, List.forall_mem_cons.mpr ⟨pfi_171, List.forall_mem_cons.mpr ⟨pfi_172, List.forall_mem_cons.mpr ⟨pfi_173, List.forall_mem_cons.mpr ⟨pfi_174, fun _ h => absurd h List.not_mem_nil⟩⟩⟩⟩⟩⟩⟩⟩⟩⟩⟩⟩⟩⟩⟩⟩⟩⟩⟩⟩⟩⟩⟩⟩⟩
theorem pf_ok_g7 : ∀ q ∈ (zPF.drop 175).take 25, pfOk q := List.forall_mem_cons.mpr ⟨pfi_175, fun _ h => absurd h List.not_mem_nil⟩
theorem pf_ok_cut : zPF = (zPF.drop 0).take 25 ++ ((zPF.drop 25).take 25 ++ ((zPF.drop 50).take 25 ++ ((zPF.drop 75).take 25 ++ ((zPF.drop 100).take 25 ++ ((zPF.drop 125).take 25 ++ ((zPF.drop 150).take 25 ++ ((zPF.drop 175).take 25))))))) := by decide +kernel
theorem pf_ok : ∀ q ∈ zPF, pfOk q := by
  rw [pf_ok_cut]
  exact List.forall_mem_append.mpr ⟨pf_ok_g0, List.forall_mem_append.mpr ⟨pf_ok_g1, List.forall_mem_append.mpr ⟨pf_ok_g2, List.forall_mem_append.mpr ⟨pf_ok_g3, List.forall_mem_append.mpr ⟨pf_ok_g4, List.forall_mem_append.mpr ⟨pf_ok_g5, List.forall_mem_append.mpr ⟨pf_ok_g6, pf_ok_g7⟩⟩⟩⟩⟩⟩⟩
def gcY : MethodName := ⟨"java/lang/Object", "getClass", "()Ljava/lang/Class;"⟩
def piY (x k : Nat) : MethodName := if k = 5 then objectInit else if k = 6 then arraycopyName else if k = 7 then gcY else if k = 8 then Lib.Math.max.name else if k = 9 then Lib.Math.min.name else mY x
/-- a call's link -/
def piOk (q : Nat × Nat × Nat × Nat × Nat) : Prop := (if q.2.2.2.1 = 3 ∨ q.2.2.2.1 = 4 then .methodLinkNest (cNm q.1) q.2.1 (mY q.2.2.1) "BuildCache" ∈ lw_tbl else .methodLink (cNm q.1) q.2.1 (piY q.2.2.1 q.2.2.2.1) ∈ bigW) ∧
  (q.2.2.2.1 < 5 → q.2.2.1 < 204 ∧ (parseMethodDescriptor (mY q.2.2.1).desc).map (fun d => d.parameters.length) = some q.2.2.2.2 ∧ (q.2.2.2.1 = 0 → Cond.selects (mY q.2.2.1).cls (mY q.2.2.1) (mY q.2.2.1) ∈ bigW) ∧ (if q.2.2.2.1 = 1 ∨ q.2.2.2.1 = 4 then Cond.static (mY q.2.2.1) else Cond.instanceMethod (mY q.2.2.1)) ∈ bigW ∧ (q.2.2.2.1 = 2 ∨ q.2.2.2.1 = 3 → (mY q.2.2.1).name = "<init>" ∧ mR q.2.2.1 = none))
theorem pii_0 : piOk (0, 3, 0, 5, 0) := ⟨(tm3 (i := 21) rfl rfl), fun h => absurd h (by decide)⟩
theorem pii_1 : piOk (0, 11, 184, 2, 0) := ⟨(tm3 (i := 23) rfl rfl), fun _ => ⟨by decide, by decide +kernel, fun h => absurd h (by decide), wi_184, fun _ => ⟨rfl, rfl⟩⟩⟩
theorem pii_2 : piOk (0, 42, 41, 3, 0) := ⟨(tl3 (i := 26) rfl), fun _ => ⟨by decide, by decide +kernel, fun h => absurd h (by decide), wi_41, fun _ => ⟨rfl, rfl⟩⟩⟩
theorem pii_3 : piOk (0, 43, 187, 0, 0) := ⟨(tm3 (i := 84) rfl rfl), fun _ => ⟨by decide, by decide +kernel, fun _ => ws_187, wi_187, fun h => absurd h (by decide)⟩⟩
theorem pii_4 : piOk (0, 47, 190, 0, 1) := ⟨(tm3 (i := 85) rfl rfl), fun _ => ⟨by decide, by decide +kernel, fun _ => ws_190, wi_190, fun h => absurd h (by decide)⟩⟩
theorem pii_5 : piOk (0, 56, 62, 0, 1) := ⟨(tm3 (i := 139) rfl rfl), fun _ => ⟨by decide, by decide +kernel, fun _ => ws_62, wi_62, fun h => absurd h (by decide)⟩⟩
theorem pii_6 : piOk (0, 60, 196, 0, 0) := ⟨(tm3 (i := 140) rfl rfl), fun _ => ⟨by decide, by decide +kernel, fun _ => ws_196, wi_196, fun h => absurd h (by decide)⟩⟩
theorem pii_7 : piOk (0, 70, 18, 0, 1) := ⟨(tm4 (i := 141) rfl rfl), fun _ => ⟨by decide, by decide +kernel, fun _ => ws_18, wi_18, fun h => absurd h (by decide)⟩⟩
theorem pii_8 : piOk (0, 76, 19, 0, 1) := ⟨(tm4 (i := 182) rfl rfl), fun _ => ⟨by decide, by decide +kernel, fun _ => ws_19, wi_19, fun h => absurd h (by decide)⟩⟩
theorem pii_9 : piOk (1, 3, 0, 5, 0) := ⟨(tm1 (i := 231) rfl rfl), fun h => absurd h (by decide)⟩
theorem pii_10 : piOk (1, 11, 184, 2, 0) := ⟨(tm1 (i := 233) rfl rfl), fun _ => ⟨by decide, by decide +kernel, fun h => absurd h (by decide), wi_184, fun _ => ⟨rfl, rfl⟩⟩⟩
theorem pii_11 : piOk (1, 31, 13, 0, 0) := ⟨(tm4 (i := 219) rfl rfl), fun _ => ⟨by decide, by decide +kernel, fun _ => ws_13, wi_13, fun h => absurd h (by decide)⟩⟩
theorem pii_12 : piOk (1, 35, 48, 0, 0) := ⟨(tm3 (i := 226) rfl rfl), fun _ => ⟨by decide, by decide +kernel, fun _ => ws_48, wi_48, fun h => absurd h (by decide)⟩⟩
theorem pii_13 : piOk (1, 41, 187, 0, 0) := ⟨(tm3 (i := 232) rfl rfl), fun _ => ⟨by decide, by decide +kernel, fun _ => ws_187, wi_187, fun h => absurd h (by decide)⟩⟩
theorem pii_14 : piOk (1, 44, 190, 0, 1) := ⟨(tm3 (i := 233) rfl rfl), fun _ => ⟨by decide, by decide +kernel, fun _ => ws_190, wi_190, fun h => absurd h (by decide)⟩⟩
theorem pii_15 : piOk (1, 57, 49, 0, 1) := ⟨(tm3 (i := 235) rfl rfl), fun _ => ⟨by decide, by decide +kernel, fun _ => ws_49, wi_49, fun h => absurd h (by decide)⟩⟩
theorem pii_16 : piOk (1, 61, 194, 0, 1) := ⟨(tm4 (i := 33) rfl rfl), fun _ => ⟨by decide, by decide +kernel, fun _ => ws_194, wi_194, fun h => absurd h (by decide)⟩⟩
theorem pii_17 : piOk (1, 64, 192, 0, 1) := ⟨(tm4 (i := 54) rfl rfl), fun _ => ⟨by decide, by decide +kernel, fun _ => ws_192, wi_192, fun h => absurd h (by decide)⟩⟩
theorem pii_18 : piOk (1, 71, 188, 0, 0) := ⟨(tm4 (i := 0) rfl rfl), fun _ => ⟨by decide, by decide +kernel, fun _ => ws_188, wi_188, fun h => absurd h (by decide)⟩⟩
theorem pii_19 : piOk (1, 75, 28, 3, 0) := ⟨(tl4 (i := 5) rfl), fun _ => ⟨by decide, by decide +kernel, fun h => absurd h (by decide), wi_28, fun _ => ⟨rfl, rfl⟩⟩⟩
theorem pii_20 : piOk (1, 76, 29, 0, 1) := ⟨(tm4 (i := 41) rfl rfl), fun _ => ⟨by decide, by decide +kernel, fun _ => ws_29, wi_29, fun h => absurd h (by decide)⟩⟩
theorem pii_21 : piOk (1, 84, 59, 0, 0) := ⟨(tm4 (i := 151) rfl rfl), fun _ => ⟨by decide, by decide +kernel, fun _ => ws_59, wi_59, fun h => absurd h (by decide)⟩⟩
theorem pii_22 : piOk (1, 87, 12, 0, 0) := ⟨(tm4 (i := 156) rfl rfl), fun _ => ⟨by decide, by decide +kernel, fun _ => ws_12, wi_12, fun h => absurd h (by decide)⟩⟩
theorem pii_23 : piOk (1, 90, 196, 0, 0) := ⟨(tm4 (i := 204) rfl rfl), fun _ => ⟨by decide, by decide +kernel, fun _ => ws_196, wi_196, fun h => absurd h (by decide)⟩⟩
theorem pii_24 : piOk (2, 3, 0, 5, 0) := ⟨(tm1 (i := 86) rfl rfl), fun h => absurd h (by decide)⟩
theorem pii_25 : piOk (2, 19, 16, 0, 1) := ⟨(tm4 (i := 84) rfl rfl), fun _ => ⟨by decide, by decide +kernel, fun _ => ws_16, wi_16, fun h => absurd h (by decide)⟩⟩
theorem pii_26 : piOk (2, 23, 20, 0, 0) := ⟨(tm4 (i := 115) rfl rfl), fun _ => ⟨by decide, by decide +kernel, fun _ => ws_20, wi_20, fun h => absurd h (by decide)⟩⟩
theorem pii_27 : piOk (2, 26, 26, 0, 2) := ⟨(tm4 (i := 128) rfl rfl), fun _ => ⟨by decide, by decide +kernel, fun _ => ws_26, wi_26, fun h => absurd h (by decide)⟩⟩
theorem pii_28 : piOk (3, 1, 0, 5, 0) := ⟨(tm4 (i := 8) rfl rfl), fun h => absurd h (by decide)⟩
theorem pii_29 : piOk (3, 9, 41, 3, 0) := ⟨(tl4 (i := 10) rfl), fun _ => ⟨by decide, by decide +kernel, fun h => absurd h (by decide), wi_41, fun _ => ⟨rfl, rfl⟩⟩⟩
theorem pii_30 : piOk (3, 18, 56, 2, 0) := ⟨(tm4 (i := 12) rfl rfl), fun _ => ⟨by decide, by decide +kernel, fun h => absurd h (by decide), wi_56, fun _ => ⟨rfl, rfl⟩⟩⟩
theorem pii_31 : piOk (3, 31, 47, 0, 1) := ⟨(tm4 (i := 45) rfl rfl), fun _ => ⟨by decide, by decide +kernel, fun _ => ws_47, wi_47, fun h => absurd h (by decide)⟩⟩
theorem pii_32 : piOk (3, 35, 48, 0, 0) := ⟨(tm4 (i := 49) rfl rfl), fun _ => ⟨by decide, by decide +kernel, fun _ => ws_48, wi_48, fun h => absurd h (by decide)⟩⟩
theorem pii_33 : piOk (4, 3, 0, 5, 0) := ⟨(tm1 (i := 218) rfl rfl), fun h => absurd h (by decide)⟩
theorem pii_34 : piOk (4, 11, 184, 2, 0) := ⟨(tm1 (i := 220) rfl rfl), fun _ => ⟨by decide, by decide +kernel, fun h => absurd h (by decide), wi_184, fun _ => ⟨rfl, rfl⟩⟩⟩
theorem pii_35 : piOk (4, 18, 187, 0, 0) := ⟨(tm3 (i := 11) rfl rfl), fun _ => ⟨by decide, by decide +kernel, fun _ => ws_187, wi_187, fun h => absurd h (by decide)⟩⟩
theorem pii_36 : piOk (4, 22, 190, 0, 1) := ⟨(tm3 (i := 79) rfl rfl), fun _ => ⟨by decide, by decide +kernel, fun _ => ws_190, wi_190, fun h => absurd h (by decide)⟩⟩
theorem pii_37 : piOk (4, 28, 0, 2, 0) := ⟨(tm3 (i := 18) rfl rfl), fun _ => ⟨by decide, by decide +kernel, fun h => absurd h (by decide), wi_0, fun _ => ⟨rfl, rfl⟩⟩⟩
theorem pii_38 : piOk (4, 29, 192, 0, 1) := ⟨(tm3 (i := 66) rfl rfl), fun _ => ⟨by decide, by decide +kernel, fun _ => ws_192, wi_192, fun h => absurd h (by decide)⟩⟩
theorem pii_39 : piOk (4, 42, 63, 0, 0) := ⟨(tm3 (i := 91) rfl rfl), fun _ => ⟨by decide, by decide +kernel, fun _ => ws_63, wi_63, fun h => absurd h (by decide)⟩⟩
theorem pii_40 : piOk (4, 46, 108, 4, 1) := ⟨(tl3 (i := 102) rfl), fun _ => ⟨by decide, by decide +kernel, fun h => absurd h (by decide), wi_108, fun h => absurd h (by decide)⟩⟩
theorem pii_41 : piOk (4, 50, 37, 0, 1) := ⟨(tm3 (i := 98) rfl rfl), fun _ => ⟨by decide, by decide +kernel, fun _ => ws_37, wi_37, fun h => absurd h (by decide)⟩⟩
theorem pii_42 : piOk (4, 58, 1, 0, 1) := ⟨(tm3 (i := 118) rfl rfl), fun _ => ⟨by decide, by decide +kernel, fun _ => ws_1, wi_1, fun h => absurd h (by decide)⟩⟩
theorem pii_43 : piOk (5, 3, 0, 5, 0) := ⟨(tm2 (i := 63) rfl rfl), fun h => absurd h (by decide)⟩
theorem pii_44 : piOk (5, 34, 187, 0, 0) := ⟨(tm3 (i := 182) rfl rfl), fun _ => ⟨by decide, by decide +kernel, fun _ => ws_187, wi_187, fun h => absurd h (by decide)⟩⟩
theorem pii_45 : piOk (5, 39, 46, 0, 1) := ⟨(tm3 (i := 183) rfl rfl), fun _ => ⟨by decide, by decide +kernel, fun _ => ws_46, wi_46, fun h => absurd h (by decide)⟩⟩
theorem pii_46 : piOk (5, 53, 190, 0, 1) := ⟨(tm3 (i := 187) rfl rfl), fun _ => ⟨by decide, by decide +kernel, fun _ => ws_190, wi_190, fun h => absurd h (by decide)⟩⟩
theorem pii_47 : piOk (5, 59, 43, 0, 2) := ⟨(tm3 (i := 189) rfl rfl), fun _ => ⟨by decide, by decide +kernel, fun _ => ws_43, wi_43, fun h => absurd h (by decide)⟩⟩
theorem pii_48 : piOk (5, 67, 44, 0, 2) := ⟨(tm3 (i := 193) rfl rfl), fun _ => ⟨by decide, by decide +kernel, fun _ => ws_44, wi_44, fun h => absurd h (by decide)⟩⟩
theorem pii_49 : piOk (5, 74, 45, 0, 1) := ⟨(tm3 (i := 206) rfl rfl), fun _ => ⟨by decide, by decide +kernel, fun _ => ws_45, wi_45, fun h => absurd h (by decide)⟩⟩
theorem pii_50 : piOk (5, 78, 64, 0, 1) := ⟨(tm3 (i := 197) rfl rfl), fun _ => ⟨by decide, by decide +kernel, fun _ => ws_64, wi_64, fun h => absurd h (by decide)⟩⟩
theorem pii_51 : piOk (5, 85, 15, 0, 0) := ⟨(tm3 (i := 205) rfl rfl), fun _ => ⟨by decide, by decide +kernel, fun _ => ws_15, wi_15, fun h => absurd h (by decide)⟩⟩
theorem pii_52 : piOk (5, 102, 50, 0, 1) := ⟨(tm3 (i := 218) rfl rfl), fun _ => ⟨by decide, by decide +kernel, fun _ => ws_50, wi_50, fun h => absurd h (by decide)⟩⟩
theorem pii_53 : piOk (5, 106, 49, 0, 1) := ⟨(tm3 (i := 214) rfl rfl), fun _ => ⟨by decide, by decide +kernel, fun _ => ws_49, wi_49, fun h => absurd h (by decide)⟩⟩
theorem pii_54 : piOk (6, 3, 0, 5, 0) := ⟨(tm2 (i := 34) rfl rfl), fun h => absurd h (by decide)⟩
theorem pii_55 : piOk (7, 3, 0, 5, 0) := ⟨(tm2 (i := 85) rfl rfl), fun h => absurd h (by decide)⟩
theorem pii_56 : piOk (7, 24, 14, 3, 0) := ⟨(tl2 (i := 87) rfl), fun _ => ⟨by decide, by decide +kernel, fun h => absurd h (by decide), wi_14, fun _ => ⟨rfl, rfl⟩⟩⟩
theorem pii_57 : piOk (7, 25, 0, 9, 2) := ⟨(tm4 (i := 64) rfl rfl), fun h => absurd h (by decide)⟩
theorem pii_58 : piOk (7, 31, 58, 0, 1) := ⟨(tm4 (i := 65) rfl rfl), fun _ => ⟨by decide, by decide +kernel, fun _ => ws_58, wi_58, fun h => absurd h (by decide)⟩⟩
theorem pii_59 : piOk (7, 38, 0, 8, 2) := ⟨(tm4 (i := 155) rfl rfl), fun h => absurd h (by decide)⟩
theorem pii_60 : piOk (8, 3, 0, 5, 0) := ⟨(tm1 (i := 77) rfl rfl), fun h => absurd h (by decide)⟩
theorem pii_61 : piOk (8, 19, 184, 2, 0) := ⟨(tm1 (i := 81) rfl rfl), fun _ => ⟨by decide, by decide +kernel, fun h => absurd h (by decide), wi_184, fun _ => ⟨rfl, rfl⟩⟩⟩
theorem pii_62 : piOk (8, 41, 14, 3, 0) := ⟨(tl1 (i := 83) rfl), fun _ => ⟨by decide, by decide +kernel, fun h => absurd h (by decide), wi_14, fun _ => ⟨rfl, rfl⟩⟩⟩
theorem pii_63 : piOk (8, 42, 187, 0, 0) := ⟨(tm2 (i := 175) rfl rfl), fun _ => ⟨by decide, by decide +kernel, fun _ => ws_187, wi_187, fun h => absurd h (by decide)⟩⟩
theorem pii_64 : piOk (8, 46, 190, 0, 1) := ⟨(tm2 (i := 176) rfl rfl), fun _ => ⟨by decide, by decide +kernel, fun _ => ws_190, wi_190, fun h => absurd h (by decide)⟩⟩
theorem pii_65 : piOk (8, 50, 193, 0, 2) := ⟨(tm2 (i := 178) rfl rfl), fun _ => ⟨by decide, by decide +kernel, fun _ => ws_193, wi_193, fun h => absurd h (by decide)⟩⟩
theorem pii_66 : piOk (8, 56, 108, 4, 1) := ⟨(tl3 (i := 95) rfl), fun _ => ⟨by decide, by decide +kernel, fun h => absurd h (by decide), wi_108, fun h => absurd h (by decide)⟩⟩
theorem pii_67 : piOk (8, 60, 15, 0, 0) := ⟨(tm3 (i := 201) rfl rfl), fun _ => ⟨by decide, by decide +kernel, fun _ => ws_15, wi_15, fun h => absurd h (by decide)⟩⟩
theorem pii_68 : piOk (9, 3, 0, 5, 0) := ⟨(tm2 (i := 19) rfl rfl), fun h => absurd h (by decide)⟩
theorem pii_69 : piOk (9, 11, 14, 3, 0) := ⟨(tl2 (i := 21) rfl), fun _ => ⟨by decide, by decide +kernel, fun h => absurd h (by decide), wi_14, fun _ => ⟨rfl, rfl⟩⟩⟩
theorem pii_70 : piOk (9, 28, 187, 0, 0) := ⟨(tm4 (i := 59) rfl rfl), fun _ => ⟨by decide, by decide +kernel, fun _ => ws_187, wi_187, fun h => absurd h (by decide)⟩⟩
theorem pii_71 : piOk (9, 34, 57, 0, 1) := ⟨(tm4 (i := 60) rfl rfl), fun _ => ⟨by decide, by decide +kernel, fun _ => ws_57, wi_57, fun h => absurd h (by decide)⟩⟩
theorem pii_72 : piOk (9, 46, 67, 0, 4) := ⟨(tm4 (i := 69) rfl rfl), fun _ => ⟨by decide, by decide +kernel, fun _ => ws_67, wi_67, fun h => absurd h (by decide)⟩⟩
theorem pii_73 : piOk (9, 50, 58, 0, 1) := ⟨(tm4 (i := 136) rfl rfl), fun _ => ⟨by decide, by decide +kernel, fun _ => ws_58, wi_58, fun h => absurd h (by decide)⟩⟩
theorem pii_74 : piOk (9, 60, 69, 0, 3) := ⟨(tm4 (i := 73) rfl rfl), fun _ => ⟨by decide, by decide +kernel, fun _ => ws_69, wi_69, fun h => absurd h (by decide)⟩⟩
theorem pii_75 : piOk (9, 64, 16, 0, 1) := ⟨(tm4 (i := 85) rfl rfl), fun _ => ⟨by decide, by decide +kernel, fun _ => ws_16, wi_16, fun h => absurd h (by decide)⟩⟩
theorem pii_76 : piOk (9, 68, 70, 0, 3) := ⟨(tm4 (i := 86) rfl rfl), fun _ => ⟨by decide, by decide +kernel, fun _ => ws_70, wi_70, fun h => absurd h (by decide)⟩⟩
theorem pii_77 : piOk (9, 71, 71, 0, 2) := ⟨(tm4 (i := 90) rfl rfl), fun _ => ⟨by decide, by decide +kernel, fun _ => ws_71, wi_71, fun h => absurd h (by decide)⟩⟩
theorem pii_78 : piOk (9, 75, 72, 0, 3) := ⟨(tm4 (i := 95) rfl rfl), fun _ => ⟨by decide, by decide +kernel, fun _ => ws_72, wi_72, fun h => absurd h (by decide)⟩⟩
theorem pii_79 : piOk (9, 78, 68, 0, 2) := ⟨(tm4 (i := 99) rfl rfl), fun _ => ⟨by decide, by decide +kernel, fun _ => ws_68, wi_68, fun h => absurd h (by decide)⟩⟩
theorem pii_80 : piOk (9, 82, 20, 0, 0) := ⟨(tm4 (i := 103) rfl rfl), fun _ => ⟨by decide, by decide +kernel, fun _ => ws_20, wi_20, fun h => absurd h (by decide)⟩⟩
theorem pii_81 : piOk (9, 85, 21, 0, 0) := ⟨(tm4 (i := 107) rfl rfl), fun _ => ⟨by decide, by decide +kernel, fun _ => ws_21, wi_21, fun h => absurd h (by decide)⟩⟩
theorem pii_82 : piOk (9, 88, 23, 0, 1) := ⟨(tm4 (i := 111) rfl rfl), fun _ => ⟨by decide, by decide +kernel, fun _ => ws_23, wi_23, fun h => absurd h (by decide)⟩⟩
theorem pii_83 : piOk (9, 91, 22, 0, 0) := ⟨(tm4 (i := 116) rfl rfl), fun _ => ⟨by decide, by decide +kernel, fun _ => ws_22, wi_22, fun h => absurd h (by decide)⟩⟩
theorem pii_84 : piOk (9, 94, 24, 0, 1) := ⟨(tm4 (i := 120) rfl rfl), fun _ => ⟨by decide, by decide +kernel, fun _ => ws_24, wi_24, fun h => absurd h (by decide)⟩⟩
theorem pii_85 : piOk (9, 97, 25, 0, 0) := ⟨(tm4 (i := 124) rfl rfl), fun _ => ⟨by decide, by decide +kernel, fun _ => ws_25, wi_25, fun h => absurd h (by decide)⟩⟩
theorem pii_86 : piOk (9, 100, 27, 0, 1) := ⟨(tm4 (i := 132) rfl rfl), fun _ => ⟨by decide, by decide +kernel, fun _ => ws_27, wi_27, fun h => absurd h (by decide)⟩⟩
theorem pii_87 : piOk (9, 103, 17, 0, 1) := ⟨(tm4 (i := 80) rfl rfl), fun _ => ⟨by decide, by decide +kernel, fun _ => ws_17, wi_17, fun h => absurd h (by decide)⟩⟩
theorem pii_88 : piOk (9, 110, 190, 0, 1) := ⟨(tm4 (i := 77) rfl rfl), fun _ => ⟨by decide, by decide +kernel, fun _ => ws_190, wi_190, fun h => absurd h (by decide)⟩⟩
theorem pii_89 : piOk (9, 123, 15, 0, 0) := ⟨(tm4 (i := 79) rfl rfl), fun _ => ⟨by decide, by decide +kernel, fun _ => ws_15, wi_15, fun h => absurd h (by decide)⟩⟩
theorem pii_90 : piOk (9, 136, 18, 0, 1) := ⟨(tm4 (i := 94) rfl rfl), fun _ => ⟨by decide, by decide +kernel, fun _ => ws_18, wi_18, fun h => absurd h (by decide)⟩⟩
theorem pii_91 : piOk (10, 3, 0, 5, 0) := ⟨(tm1 (i := 37) rfl rfl), fun h => absurd h (by decide)⟩
theorem pii_92 : piOk (10, 11, 184, 2, 0) := ⟨(tm1 (i := 40) rfl rfl), fun _ => ⟨by decide, by decide +kernel, fun h => absurd h (by decide), wi_184, fun _ => ⟨rfl, rfl⟩⟩⟩
theorem pii_93 : piOk (10, 18, 74, 0, 0) := ⟨(tm1 (i := 64) rfl rfl), fun _ => ⟨by decide, by decide +kernel, fun _ => ws_74, wi_74, fun h => absurd h (by decide)⟩⟩
theorem pii_94 : piOk (10, 21, 196, 0, 0) := ⟨(tm1 (i := 68) rfl rfl), fun _ => ⟨by decide, by decide +kernel, fun _ => ws_196, wi_196, fun h => absurd h (by decide)⟩⟩
theorem pii_95 : piOk (10, 26, 60, 2, 4) := ⟨(tm1 (i := 74) rfl rfl), fun _ => ⟨by decide, by decide +kernel, fun h => absurd h (by decide), wi_60, fun _ => ⟨rfl, rfl⟩⟩⟩
theorem pii_96 : piOk (10, 29, 192, 0, 1) := ⟨(tm1 (i := 146) rfl rfl), fun _ => ⟨by decide, by decide +kernel, fun _ => ws_192, wi_192, fun h => absurd h (by decide)⟩⟩
theorem pii_97 : piOk (10, 33, 187, 0, 0) := ⟨(tm2 (i := 136) rfl rfl), fun _ => ⟨by decide, by decide +kernel, fun _ => ws_187, wi_187, fun h => absurd h (by decide)⟩⟩
theorem pii_98 : piOk (10, 37, 190, 0, 1) := ⟨(tm2 (i := 144) rfl rfl), fun _ => ⟨by decide, by decide +kernel, fun _ => ws_190, wi_190, fun h => absurd h (by decide)⟩⟩
theorem pii_99 : piOk (10, 48, 77, 0, 1) := ⟨(tm2 (i := 170) rfl rfl), fun _ => ⟨by decide, by decide +kernel, fun _ => ws_77, wi_77, fun h => absurd h (by decide)⟩⟩
theorem pii_100 : piOk (10, 52, 61, 0, 1) := ⟨(tm2 (i := 171) rfl rfl), fun _ => ⟨by decide, by decide +kernel, fun _ => ws_61, wi_61, fun h => absurd h (by decide)⟩⟩
theorem pii_101 : piOk (10, 66, 19, 0, 1) := ⟨(tm2 (i := 230) rfl rfl), fun _ => ⟨by decide, by decide +kernel, fun _ => ws_19, wi_19, fun h => absurd h (by decide)⟩⟩
theorem pii_102 : piOk (10, 72, 18, 0, 1) := ⟨(tm2 (i := 234) rfl rfl), fun _ => ⟨by decide, by decide +kernel, fun _ => ws_18, wi_18, fun h => absurd h (by decide)⟩⟩
theorem pii_103 : piOk (11, 3, 0, 5, 0) := ⟨(tm1 (i := 29) rfl rfl), fun h => absurd h (by decide)⟩
theorem pii_104 : piOk (11, 11, 73, 2, 0) := ⟨(tm1 (i := 34) rfl rfl), fun _ => ⟨by decide, by decide +kernel, fun h => absurd h (by decide), wi_73, fun _ => ⟨rfl, rfl⟩⟩⟩
theorem pii_105 : piOk (11, 18, 14, 3, 0) := ⟨(tl1 (i := 212) rfl), fun _ => ⟨by decide, by decide +kernel, fun h => absurd h (by decide), wi_14, fun _ => ⟨rfl, rfl⟩⟩⟩
theorem pii_106 : piOk (11, 25, 30, 3, 0) := ⟨(tl1 (i := 215) rfl), fun _ => ⟨by decide, by decide +kernel, fun h => absurd h (by decide), wi_30, fun _ => ⟨rfl, rfl⟩⟩⟩
theorem pii_107 : piOk (11, 32, 6, 3, 0) := ⟨(tl1 (i := 228) rfl), fun _ => ⟨by decide, by decide +kernel, fun h => absurd h (by decide), wi_6, fun _ => ⟨rfl, rfl⟩⟩⟩
theorem pii_108 : piOk (11, 39, 65, 3, 0) := ⟨(tl2 (i := 16) rfl), fun _ => ⟨by decide, by decide +kernel, fun h => absurd h (by decide), wi_65, fun _ => ⟨rfl, rfl⟩⟩⟩
theorem pii_109 : piOk (11, 46, 52, 3, 0) := ⟨(tl2 (i := 31) rfl), fun _ => ⟨by decide, by decide +kernel, fun h => absurd h (by decide), wi_52, fun _ => ⟨rfl, rfl⟩⟩⟩
theorem pii_110 : piOk (11, 53, 41, 3, 0) := ⟨(tl2 (i := 60) rfl), fun _ => ⟨by decide, by decide +kernel, fun h => absurd h (by decide), wi_41, fun _ => ⟨rfl, rfl⟩⟩⟩
theorem pii_111 : piOk (11, 60, 56, 2, 0) := ⟨(tm2 (i := 82) rfl rfl), fun _ => ⟨by decide, by decide +kernel, fun h => absurd h (by decide), wi_56, fun _ => ⟨rfl, rfl⟩⟩⟩
theorem pii_112 : piOk (11, 69, 76, 0, 1) := ⟨(tm2 (i := 132) rfl rfl), fun _ => ⟨by decide, by decide +kernel, fun _ => ws_76, wi_76, fun h => absurd h (by decide)⟩⟩
theorem pii_113 : piOk (11, 73, 77, 0, 1) := ⟨(tm2 (i := 140) rfl rfl), fun _ => ⟨by decide, by decide +kernel, fun _ => ws_77, wi_77, fun h => absurd h (by decide)⟩⟩
theorem pii_114 : piOk (11, 83, 78, 0, 2) := ⟨(tm2 (i := 158) rfl rfl), fun _ => ⟨by decide, by decide +kernel, fun _ => ws_78, wi_78, fun h => absurd h (by decide)⟩⟩
theorem pii_115 : piOk (11, 87, 75, 0, 0) := ⟨(tm2 (i := 162) rfl rfl), fun _ => ⟨by decide, by decide +kernel, fun _ => ws_75, wi_75, fun h => absurd h (by decide)⟩⟩
theorem pii_116 : piOk (11, 90, 79, 0, 3) := ⟨(tm2 (i := 166) rfl rfl), fun _ => ⟨by decide, by decide +kernel, fun _ => ws_79, wi_79, fun h => absurd h (by decide)⟩⟩
theorem pii_117 : piOk (11, 103, 16, 0, 1) := ⟨(tm2 (i := 195) rfl rfl), fun _ => ⟨by decide, by decide +kernel, fun _ => ws_16, wi_16, fun h => absurd h (by decide)⟩⟩
theorem pii_118 : piOk (11, 106, 110, 0, 2) := ⟨(tm2 (i := 203) rfl rfl), fun _ => ⟨by decide, by decide +kernel, fun _ => ws_110, wi_110, fun h => absurd h (by decide)⟩⟩
theorem pii_119 : piOk (11, 114, 18, 0, 1) := ⟨(tm2 (i := 214) rfl rfl), fun _ => ⟨by decide, by decide +kernel, fun _ => ws_18, wi_18, fun h => absurd h (by decide)⟩⟩
theorem pii_120 : piOk (11, 118, 107, 1, 1) := ⟨(tm2 (i := 211) rfl rfl), fun _ => ⟨by decide, by decide +kernel, fun h => absurd h (by decide), wi_107, fun h => absurd h (by decide)⟩⟩
theorem pii_121 : piOk (11, 121, 80, 0, 2) := ⟨(tm2 (i := 226) rfl rfl), fun _ => ⟨by decide, by decide +kernel, fun _ => ws_80, wi_80, fun h => absurd h (by decide)⟩⟩
theorem pii_122 : piOk (11, 124, 109, 0, 2) := ⟨(tm2 (i := 207) rfl rfl), fun _ => ⟨by decide, by decide +kernel, fun _ => ws_109, wi_109, fun h => absurd h (by decide)⟩⟩
theorem pii_123 : piOk (11, 131, 31, 0, 0) := ⟨(tm3 (i := 7) rfl rfl), fun _ => ⟨by decide, by decide +kernel, fun _ => ws_31, wi_31, fun h => absurd h (by decide)⟩⟩
theorem pii_124 : piOk (11, 132, 34, 0, 0) := ⟨(tm3 (i := 12) rfl rfl), fun _ => ⟨by decide, by decide +kernel, fun _ => ws_34, wi_34, fun h => absurd h (by decide)⟩⟩
theorem pii_125 : piOk (11, 134, 32, 0, 1) := ⟨(tm3 (i := 71) rfl rfl), fun _ => ⟨by decide, by decide +kernel, fun _ => ws_32, wi_32, fun h => absurd h (by decide)⟩⟩
theorem pii_126 : piOk (11, 135, 33, 0, 1) := ⟨(tm3 (i := 75) rfl rfl), fun _ => ⟨by decide, by decide +kernel, fun _ => ws_33, wi_33, fun h => absurd h (by decide)⟩⟩
theorem pii_127 : piOk (11, 138, 1, 0, 1) := ⟨(tm3 (i := 80) rfl rfl), fun _ => ⟨by decide, by decide +kernel, fun _ => ws_1, wi_1, fun h => absurd h (by decide)⟩⟩
theorem pii_128 : piOk (11, 143, 38, 0, 2) := ⟨(tm3 (i := 87) rfl rfl), fun _ => ⟨by decide, by decide +kernel, fun _ => ws_38, wi_38, fun h => absurd h (by decide)⟩⟩
theorem pii_129 : piOk (11, 151, 187, 0, 0) := ⟨(tm3 (i := 103) rfl rfl), fun _ => ⟨by decide, by decide +kernel, fun _ => ws_187, wi_187, fun h => absurd h (by decide)⟩⟩
theorem pii_130 : piOk (11, 154, 192, 0, 1) := ⟨(tm3 (i := 104) rfl rfl), fun _ => ⟨by decide, by decide +kernel, fun _ => ws_192, wi_192, fun h => absurd h (by decide)⟩⟩
theorem pii_131 : piOk (11, 157, 36, 0, 0) := ⟨(tm3 (i := 105) rfl rfl), fun _ => ⟨by decide, by decide +kernel, fun _ => ws_36, wi_36, fun h => absurd h (by decide)⟩⟩
theorem pii_132 : piOk (11, 160, 39, 0, 2) := ⟨(tm3 (i := 114) rfl rfl), fun _ => ⟨by decide, by decide +kernel, fun _ => ws_39, wi_39, fun h => absurd h (by decide)⟩⟩
theorem pii_133 : piOk (11, 166, 62, 0, 1) := ⟨(tm3 (i := 119) rfl rfl), fun _ => ⟨by decide, by decide +kernel, fun _ => ws_62, wi_62, fun h => absurd h (by decide)⟩⟩
theorem pii_134 : piOk (11, 170, 2, 0, 2) := ⟨(tm3 (i := 127) rfl rfl), fun _ => ⟨by decide, by decide +kernel, fun _ => ws_2, wi_2, fun h => absurd h (by decide)⟩⟩
theorem pii_135 : piOk (11, 173, 3, 0, 0) := ⟨(tm3 (i := 135) rfl rfl), fun _ => ⟨by decide, by decide +kernel, fun _ => ws_3, wi_3, fun h => absurd h (by decide)⟩⟩
theorem pii_136 : piOk (11, 183, 181, 1, 1) := ⟨(tm3 (i := 145) rfl rfl), fun _ => ⟨by decide, by decide +kernel, fun h => absurd h (by decide), wi_181, fun h => absurd h (by decide)⟩⟩
theorem pii_137 : piOk (11, 189, 108, 1, 1) := ⟨(tm3 (i := 155) rfl rfl), fun _ => ⟨by decide, by decide +kernel, fun h => absurd h (by decide), wi_108, fun h => absurd h (by decide)⟩⟩
theorem pii_138 : piOk (11, 193, 35, 0, 0) := ⟨(tm3 (i := 160) rfl rfl), fun _ => ⟨by decide, by decide +kernel, fun _ => ws_35, wi_35, fun h => absurd h (by decide)⟩⟩
theorem pii_139 : piOk (11, 197, 63, 0, 0) := ⟨(tm3 (i := 164) rfl rfl), fun _ => ⟨by decide, by decide +kernel, fun _ => ws_63, wi_63, fun h => absurd h (by decide)⟩⟩
theorem pii_140 : piOk (11, 200, 37, 0, 1) := ⟨(tm3 (i := 165) rfl rfl), fun _ => ⟨by decide, by decide +kernel, fun _ => ws_37, wi_37, fun h => absurd h (by decide)⟩⟩
theorem pii_141 : piOk (11, 207, 54, 0, 0) := ⟨(tm3 (i := 166) rfl rfl), fun _ => ⟨by decide, by decide +kernel, fun _ => ws_54, wi_54, fun h => absurd h (by decide)⟩⟩
theorem pii_142 : piOk (11, 210, 40, 0, 1) := ⟨(tm3 (i := 170) rfl rfl), fun _ => ⟨by decide, by decide +kernel, fun _ => ws_40, wi_40, fun h => absurd h (by decide)⟩⟩
theorem pii_143 : piOk (11, 213, 111, 0, 2) := ⟨(tm3 (i := 174) rfl rfl), fun _ => ⟨by decide, by decide +kernel, fun _ => ws_111, wi_111, fun h => absurd h (by decide)⟩⟩
theorem pii_144 : piOk (11, 224, 42, 0, 2) := ⟨(tm3 (i := 178) rfl rfl), fun _ => ⟨by decide, by decide +kernel, fun _ => ws_42, wi_42, fun h => absurd h (by decide)⟩⟩
theorem pii_145 : piOk (11, 232, 51, 0, 1) := ⟨(tm3 (i := 210) rfl rfl), fun _ => ⟨by decide, by decide +kernel, fun _ => ws_51, wi_51, fun h => absurd h (by decide)⟩⟩
theorem pii_146 : piOk (11, 236, 48, 0, 0) := ⟨(tm4 (i := 173) rfl rfl), fun _ => ⟨by decide, by decide +kernel, fun _ => ws_48, wi_48, fun h => absurd h (by decide)⟩⟩
theorem pii_147 : piOk (11, 239, 66, 0, 3) := ⟨(tm4 (i := 55) rfl rfl), fun _ => ⟨by decide, by decide +kernel, fun _ => ws_66, wi_66, fun h => absurd h (by decide)⟩⟩
theorem pii_148 : piOk (11, 243, 5, 0, 2) := ⟨(tm4 (i := 178) rfl rfl), fun _ => ⟨by decide, by decide +kernel, fun _ => ws_5, wi_5, fun h => absurd h (by decide)⟩⟩
theorem pii_149 : piOk (11, 250, 12, 0, 0) := ⟨(tm4 (i := 187) rfl rfl), fun _ => ⟨by decide, by decide +kernel, fun _ => ws_12, wi_12, fun h => absurd h (by decide)⟩⟩
theorem pii_150 : piOk (11, 258, 190, 0, 1) := ⟨(tm4 (i := 193) rfl rfl), fun _ => ⟨by decide, by decide +kernel, fun _ => ws_190, wi_190, fun h => absurd h (by decide)⟩⟩
theorem pii_151 : piOk (11, 269, 59, 0, 0) := ⟨(tm4 (i := 195) rfl rfl), fun _ => ⟨by decide, by decide +kernel, fun _ => ws_59, wi_59, fun h => absurd h (by decide)⟩⟩
theorem pii_152 : piOk (11, 278, 13, 0, 0) := ⟨(tm4 (i := 200) rfl rfl), fun _ => ⟨by decide, by decide +kernel, fun _ => ws_13, wi_13, fun h => absurd h (by decide)⟩⟩
theorem pii_153 : piOk (11, 291, 74, 0, 0) := ⟨(tm4 (i := 213) rfl rfl), fun _ => ⟨by decide, by decide +kernel, fun _ => ws_74, wi_74, fun h => absurd h (by decide)⟩⟩
theorem pii_154 : piOk (11, 297, 196, 0, 0) := ⟨(tm4 (i := 214) rfl rfl), fun _ => ⟨by decide, by decide +kernel, fun _ => ws_196, wi_196, fun h => absurd h (by decide)⟩⟩
theorem pii_155 : piOk (11, 300, 7, 0, 0) := ⟨(tm4 (i := 215) rfl rfl), fun _ => ⟨by decide, by decide +kernel, fun _ => ws_7, wi_7, fun h => absurd h (by decide)⟩⟩
theorem pii_156 : piOk (11, 301, 53, 0, 0) := ⟨(tm4 (i := 220) rfl rfl), fun _ => ⟨by decide, by decide +kernel, fun _ => ws_53, wi_53, fun h => absurd h (by decide)⟩⟩
theorem pii_157 : piOk (11, 302, 8, 0, 1) := ⟨(tm3 (i := 222) rfl rfl), fun _ => ⟨by decide, by decide +kernel, fun _ => ws_8, wi_8, fun h => absurd h (by decide)⟩⟩
theorem pii_158 : piOk (11, 305, 10, 0, 1) := ⟨(tm3 (i := 236) rfl rfl), fun _ => ⟨by decide, by decide +kernel, fun _ => ws_10, wi_10, fun h => absurd h (by decide)⟩⟩
theorem pii_159 : piOk (11, 309, 9, 0, 1) := ⟨(tm4 (i := 50) rfl rfl), fun _ => ⟨by decide, by decide +kernel, fun _ => ws_9, wi_9, fun h => absurd h (by decide)⟩⟩
theorem pii_160 : piOk (11, 313, 4, 0, 2) := ⟨(tm4 (i := 137) rfl rfl), fun _ => ⟨by decide, by decide +kernel, fun _ => ws_4, wi_4, fun h => absurd h (by decide)⟩⟩
theorem pii_161 : piOk (11, 317, 47, 0, 1) := ⟨(tm4 (i := 142) rfl rfl), fun _ => ⟨by decide, by decide +kernel, fun _ => ws_47, wi_47, fun h => absurd h (by decide)⟩⟩
theorem pii_162 : piOk (11, 320, 55, 0, 4) := ⟨(tm4 (i := 143) rfl rfl), fun _ => ⟨by decide, by decide +kernel, fun _ => ws_55, wi_55, fun h => absurd h (by decide)⟩⟩
theorem pii_163 : piOk (11, 323, 11, 0, 1) := ⟨(tm4 (i := 147) rfl rfl), fun _ => ⟨by decide, by decide +kernel, fun _ => ws_11, wi_11, fun h => absurd h (by decide)⟩⟩
theorem pii_164 : piOk (12, 1, 0, 5, 0) := ⟨(tm4 (i := 229) rfl rfl), fun h => absurd h (by decide)⟩
theorem pii_165 : piOk (12, 140, 113, 1, 3) := ⟨(tm5 (i := 164) rfl rfl), fun _ => ⟨by decide, by decide +kernel, fun h => absurd h (by decide), wi_113, fun h => absurd h (by decide)⟩⟩
theorem pii_166 : piOk (12, 147, 114, 0, 1) := ⟨(tm5 (i := 160) rfl rfl), fun _ => ⟨by decide, by decide +kernel, fun _ => ws_114, wi_114, fun h => absurd h (by decide)⟩⟩
theorem pii_167 : piOk (12, 156, 119, 0, 2) := ⟨(tm5 (i := 180) rfl rfl), fun _ => ⟨by decide, by decide +kernel, fun _ => ws_119, wi_119, fun h => absurd h (by decide)⟩⟩
theorem pii_168 : piOk (12, 160, 120, 0, 1) := ⟨(tm5 (i := 184) rfl rfl), fun _ => ⟨by decide, by decide +kernel, fun _ => ws_120, wi_120, fun h => absurd h (by decide)⟩⟩
theorem pii_169 : piOk (12, 163, 123, 0, 3) := ⟨(tm5 (i := 196) rfl rfl), fun _ => ⟨by decide, by decide +kernel, fun _ => ws_123, wi_123, fun h => absurd h (by decide)⟩⟩
theorem pii_170 : piOk (12, 166, 124, 0, 3) := ⟨(tm5 (i := 200) rfl rfl), fun _ => ⟨by decide, by decide +kernel, fun _ => ws_124, wi_124, fun h => absurd h (by decide)⟩⟩
theorem pii_171 : piOk (12, 170, 129, 0, 2) := ⟨(tm5 (i := 232) rfl rfl), fun _ => ⟨by decide, by decide +kernel, fun _ => ws_129, wi_129, fun h => absurd h (by decide)⟩⟩
theorem pii_172 : piOk (12, 173, 130, 0, 1) := ⟨(tm5 (i := 228) rfl rfl), fun _ => ⟨by decide, by decide +kernel, fun _ => ws_130, wi_130, fun h => absurd h (by decide)⟩⟩
theorem pii_173 : piOk (12, 177, 115, 0, 1) := ⟨(tm5 (i := 220) rfl rfl), fun _ => ⟨by decide, by decide +kernel, fun _ => ws_115, wi_115, fun h => absurd h (by decide)⟩⟩
theorem pii_174 : piOk (12, 180, 133, 0, 3) := ⟨(tm5 (i := 224) rfl rfl), fun _ => ⟨by decide, by decide +kernel, fun _ => ws_133, wi_133, fun h => absurd h (by decide)⟩⟩
theorem pii_175 : piOk (12, 184, 131, 0, 1) := ⟨(tm5 (i := 236) rfl rfl), fun _ => ⟨by decide, by decide +kernel, fun _ => ws_131, wi_131, fun h => absurd h (by decide)⟩⟩
theorem pii_176 : piOk (12, 190, 139, 0, 1) := ⟨(tm6 (i := 32) rfl rfl), fun _ => ⟨by decide, by decide +kernel, fun _ => ws_139, wi_139, fun h => absurd h (by decide)⟩⟩
theorem pii_177 : piOk (12, 196, 141, 0, 2) := ⟨(tm6 (i := 40) rfl rfl), fun _ => ⟨by decide, by decide +kernel, fun _ => ws_141, wi_141, fun h => absurd h (by decide)⟩⟩
theorem pii_178 : piOk (12, 200, 140, 0, 1) := ⟨(tm6 (i := 28) rfl rfl), fun _ => ⟨by decide, by decide +kernel, fun _ => ws_140, wi_140, fun h => absurd h (by decide)⟩⟩
theorem pii_179 : piOk (12, 203, 142, 0, 2) := ⟨(tm6 (i := 36) rfl rfl), fun _ => ⟨by decide, by decide +kernel, fun _ => ws_142, wi_142, fun h => absurd h (by decide)⟩⟩
theorem pii_180 : piOk (12, 210, 143, 0, 2) := ⟨(tm6 (i := 24) rfl rfl), fun _ => ⟨by decide, by decide +kernel, fun _ => ws_143, wi_143, fun h => absurd h (by decide)⟩⟩
theorem pii_181 : piOk (12, 213, 144, 1, 3) := ⟨(tm6 (i := 44) rfl rfl), fun _ => ⟨by decide, by decide +kernel, fun h => absurd h (by decide), wi_144, fun h => absurd h (by decide)⟩⟩
theorem pii_182 : piOk (12, 217, 146, 0, 5) := ⟨(tm6 (i := 57) rfl rfl), fun _ => ⟨by decide, by decide +kernel, fun _ => ws_146, wi_146, fun h => absurd h (by decide)⟩⟩
theorem pii_183 : piOk (12, 221, 147, 0, 2) := ⟨(tm6 (i := 53) rfl rfl), fun _ => ⟨by decide, by decide +kernel, fun _ => ws_147, wi_147, fun h => absurd h (by decide)⟩⟩
theorem pii_184 : piOk (12, 231, 150, 0, 1) := ⟨(tm6 (i := 97) rfl rfl), fun _ => ⟨by decide, by decide +kernel, fun _ => ws_150, wi_150, fun h => absurd h (by decide)⟩⟩
theorem pii_185 : piOk (12, 234, 155, 0, 0) := ⟨(tm6 (i := 101) rfl rfl), fun _ => ⟨by decide, by decide +kernel, fun _ => ws_155, wi_155, fun h => absurd h (by decide)⟩⟩
theorem pii_186 : piOk (12, 237, 156, 0, 0) := ⟨(tm6 (i := 105) rfl rfl), fun _ => ⟨by decide, by decide +kernel, fun _ => ws_156, wi_156, fun h => absurd h (by decide)⟩⟩
theorem pii_187 : piOk (12, 240, 151, 0, 1) := ⟨(tm6 (i := 109) rfl rfl), fun _ => ⟨by decide, by decide +kernel, fun _ => ws_151, wi_151, fun h => absurd h (by decide)⟩⟩
theorem pii_188 : piOk (12, 243, 159, 0, 0) := ⟨(tm6 (i := 113) rfl rfl), fun _ => ⟨by decide, by decide +kernel, fun _ => ws_159, wi_159, fun h => absurd h (by decide)⟩⟩
theorem pii_189 : piOk (12, 247, 157, 0, 0) := ⟨(tm6 (i := 117) rfl rfl), fun _ => ⟨by decide, by decide +kernel, fun _ => ws_157, wi_157, fun h => absurd h (by decide)⟩⟩
theorem pii_190 : piOk (12, 250, 160, 0, 1) := ⟨(tm6 (i := 121) rfl rfl), fun _ => ⟨by decide, by decide +kernel, fun _ => ws_160, wi_160, fun h => absurd h (by decide)⟩⟩
theorem pii_191 : piOk (12, 253, 158, 0, 0) := ⟨(tm6 (i := 125) rfl rfl), fun _ => ⟨by decide, by decide +kernel, fun _ => ws_158, wi_158, fun h => absurd h (by decide)⟩⟩
theorem pii_192 : piOk (12, 256, 154, 0, 1) := ⟨(tm6 (i := 89) rfl rfl), fun _ => ⟨by decide, by decide +kernel, fun _ => ws_154, wi_154, fun h => absurd h (by decide)⟩⟩
theorem pii_193 : piOk (12, 259, 161, 0, 2) := ⟨(tm6 (i := 93) rfl rfl), fun _ => ⟨by decide, by decide +kernel, fun _ => ws_161, wi_161, fun h => absurd h (by decide)⟩⟩
theorem pii_194 : piOk (12, 262, 152, 0, 2) := ⟨(tm6 (i := 129) rfl rfl), fun _ => ⟨by decide, by decide +kernel, fun _ => ws_152, wi_152, fun h => absurd h (by decide)⟩⟩
theorem pii_195 : piOk (12, 265, 153, 0, 2) := ⟨(tm6 (i := 133) rfl rfl), fun _ => ⟨by decide, by decide +kernel, fun _ => ws_153, wi_153, fun h => absurd h (by decide)⟩⟩
theorem pii_196 : piOk (12, 271, 164, 0, 0) := ⟨(tm6 (i := 145) rfl rfl), fun _ => ⟨by decide, by decide +kernel, fun _ => ws_164, wi_164, fun h => absurd h (by decide)⟩⟩
theorem pii_197 : piOk (12, 274, 165, 0, 1) := ⟨(tm6 (i := 149) rfl rfl), fun _ => ⟨by decide, by decide +kernel, fun _ => ws_165, wi_165, fun h => absurd h (by decide)⟩⟩
theorem pii_198 : piOk (12, 280, 166, 0, 1) := ⟨(tm6 (i := 141) rfl rfl), fun _ => ⟨by decide, by decide +kernel, fun _ => ws_166, wi_166, fun h => absurd h (by decide)⟩⟩
theorem pii_199 : piOk (12, 287, 149, 0, 2) := ⟨(tm6 (i := 77) rfl rfl), fun _ => ⟨by decide, by decide +kernel, fun _ => ws_149, wi_149, fun h => absurd h (by decide)⟩⟩
theorem pii_200 : piOk (12, 290, 167, 0, 0) := ⟨(tm6 (i := 81) rfl rfl), fun _ => ⟨by decide, by decide +kernel, fun _ => ws_167, wi_167, fun h => absurd h (by decide)⟩⟩
theorem pii_201 : piOk (12, 293, 162, 0, 2) := ⟨(tm6 (i := 85) rfl rfl), fun _ => ⟨by decide, by decide +kernel, fun _ => ws_162, wi_162, fun h => absurd h (by decide)⟩⟩
theorem pii_202 : piOk (12, 296, 168, 0, 1) := ⟨(tm6 (i := 137) rfl rfl), fun _ => ⟨by decide, by decide +kernel, fun _ => ws_168, wi_168, fun h => absurd h (by decide)⟩⟩
theorem pii_203 : piOk (12, 302, 169, 0, 1) := ⟨(tm6 (i := 153) rfl rfl), fun _ => ⟨by decide, by decide +kernel, fun _ => ws_169, wi_169, fun h => absurd h (by decide)⟩⟩
theorem pii_204 : piOk (12, 308, 163, 0, 2) := ⟨(tm6 (i := 157) rfl rfl), fun _ => ⟨by decide, by decide +kernel, fun _ => ws_163, wi_163, fun h => absurd h (by decide)⟩⟩
theorem pii_205 : piOk (12, 314, 170, 0, 1) := ⟨(tm6 (i := 65) rfl rfl), fun _ => ⟨by decide, by decide +kernel, fun _ => ws_170, wi_170, fun h => absurd h (by decide)⟩⟩
theorem pii_206 : piOk (12, 317, 171, 0, 0) := ⟨(tm6 (i := 69) rfl rfl), fun _ => ⟨by decide, by decide +kernel, fun _ => ws_171, wi_171, fun h => absurd h (by decide)⟩⟩
theorem pii_207 : piOk (12, 320, 172, 0, 2) := ⟨(tm6 (i := 73) rfl rfl), fun _ => ⟨by decide, by decide +kernel, fun _ => ws_172, wi_172, fun h => absurd h (by decide)⟩⟩
theorem pii_208 : piOk (12, 325, 178, 0, 0) := ⟨(tm6 (i := 190) rfl rfl), fun _ => ⟨by decide, by decide +kernel, fun _ => ws_178, wi_178, fun h => absurd h (by decide)⟩⟩
theorem pii_209 : piOk (13, 1, 183, 2, 0) := ⟨(tm1 (i := 43) rfl rfl), fun _ => ⟨by decide, by decide +kernel, fun h => absurd h (by decide), wi_183, fun _ => ⟨rfl, rfl⟩⟩⟩
theorem pii_210 : piOk (13, 66, 198, 1, 2) := ⟨(tm1 (i := 172) rfl rfl), fun _ => ⟨by decide, by decide +kernel, fun h => absurd h (by decide), wi_198, fun h => absurd h (by decide)⟩⟩
theorem pii_211 : piOk (13, 69, 185, 0, 1) := ⟨(tm1 (i := 158) rfl rfl), fun _ => ⟨by decide, by decide +kernel, fun _ => ws_185, wi_185, fun h => absurd h (by decide)⟩⟩
theorem pii_212 : piOk (13, 73, 201, 1, 3) := ⟨(tm1 (i := 162) rfl rfl), fun _ => ⟨by decide, by decide +kernel, fun h => absurd h (by decide), wi_201, fun h => absurd h (by decide)⟩⟩
theorem pii_213 : piOk (13, 79, 0, 8, 2) := ⟨(tm1 (i := 205) rfl rfl), fun h => absurd h (by decide)⟩
theorem pii_214 : piOk (13, 112, 0, 6, 5) := ⟨(tm2 (i := 186) rfl rfl), fun h => absurd h (by decide)⟩
theorem pii_215 : piOk (13, 118, 200, 1, 2) := ⟨(tm2 (i := 148) rfl rfl), fun _ => ⟨by decide, by decide +kernel, fun h => absurd h (by decide), wi_200, fun h => absurd h (by decide)⟩⟩
theorem pii_216 : piOk (13, 123, 189, 0, 1) := ⟨(tm2 (i := 154) rfl rfl), fun _ => ⟨by decide, by decide +kernel, fun _ => ws_189, wi_189, fun h => absurd h (by decide)⟩⟩
theorem pii_217 : piOk (13, 129, 186, 0, 0) := ⟨(tm1 (i := 154) rfl rfl), fun _ => ⟨by decide, by decide +kernel, fun _ => ws_186, wi_186, fun h => absurd h (by decide)⟩⟩
theorem pii_218 : piOk (13, 131, 191, 0, 3) := ⟨(tm1 (i := 150) rfl rfl), fun _ => ⟨by decide, by decide +kernel, fun _ => ws_191, wi_191, fun h => absurd h (by decide)⟩⟩
theorem pii_219 : piOk (13, 135, 197, 0, 1) := ⟨(tm2 (i := 182) rfl rfl), fun _ => ⟨by decide, by decide +kernel, fun _ => ws_197, wi_197, fun h => absurd h (by decide)⟩⟩
theorem pii_220 : piOk (13, 144, 195, 0, 2) := ⟨(tm4 (i := 37) rfl rfl), fun _ => ⟨by decide, by decide +kernel, fun _ => ws_195, wi_195, fun h => absurd h (by decide)⟩⟩
theorem pii_221 : piOk (14, 1, 182, 2, 0) := ⟨(tm1 (i := 46) rfl rfl), fun _ => ⟨by decide, by decide +kernel, fun h => absurd h (by decide), wi_182, fun _ => ⟨rfl, rfl⟩⟩⟩
theorem pii_222 : piOk (15, 1, 0, 5, 0) := ⟨(tm1 (i := 49) rfl rfl), fun h => absurd h (by decide)⟩
theorem pii_223 : piOk (16, 86, 0, 7, 0) := ⟨(tm1 (i := 175) rfl rfl), fun h => absurd h (by decide)⟩
theorem pii_224 : piOk (16, 150, 0, 6, 5) := ⟨(tm1 (i := 202) rfl rfl), fun h => absurd h (by decide)⟩
theorem pii_225 : piOk (16, 300, 199, 1, 3) := ⟨(tm1 (i := 193) rfl rfl), fun _ => ⟨by decide, by decide +kernel, fun h => absurd h (by decide), wi_199, fun h => absurd h (by decide)⟩⟩
theorem pii_226 : piOk (16, 304, 0, 9, 2) := ⟨(tm1 (i := 199) rfl rfl), fun h => absurd h (by decide)⟩
theorem pii_227 : piOk (17, 105, 203, 1, 3) := ⟨(tm2 (i := 151) rfl rfl), fun _ => ⟨by decide, by decide +kernel, fun h => absurd h (by decide), wi_203, fun h => absurd h (by decide)⟩⟩
theorem pii_228 : piOk (19, 194, 0, 8, 2) := ⟨(tm1 (i := 165) rfl rfl), fun h => absurd h (by decide)⟩
theorem pii_229 : piOk (19, 201, 202, 1, 2) := ⟨(tm1 (i := 169) rfl rfl), fun _ => ⟨by decide, by decide +kernel, fun h => absurd h (by decide), wi_202, fun h => absurd h (by decide)⟩⟩
theorem pii_230 : piOk (24, 9, 81, 2, 0) := ⟨(tm1 (i := 26) rfl rfl), fun _ => ⟨by decide, by decide +kernel, fun h => absurd h (by decide), wi_81, fun _ => ⟨rfl, rfl⟩⟩⟩
theorem pii_231 : piOk (24, 12, 112, 2, 0) := ⟨(tm4 (i := 226) rfl rfl), fun _ => ⟨by decide, by decide +kernel, fun h => absurd h (by decide), wi_112, fun _ => ⟨rfl, rfl⟩⟩⟩
theorem pii_232 : piOk (24, 13, 82, 0, 3) := ⟨(tm2 (i := 128) rfl rfl), fun _ => ⟨by decide, by decide +kernel, fun _ => ws_82, wi_82, fun h => absurd h (by decide)⟩⟩
theorem pii_233 : piOk (24, 17, 116, 0, 3) := ⟨(tm5 (i := 156) rfl rfl), fun _ => ⟨by decide, by decide +kernel, fun _ => ws_116, wi_116, fun h => absurd h (by decide)⟩⟩
theorem pii_234 : piOk (24, 18, 83, 0, 2) := ⟨(tm2 (i := 187) rfl rfl), fun _ => ⟨by decide, by decide +kernel, fun _ => ws_83, wi_83, fun h => absurd h (by decide)⟩⟩
theorem pii_235 : piOk (24, 22, 117, 0, 2) := ⟨(tm5 (i := 167) rfl rfl), fun _ => ⟨by decide, by decide +kernel, fun _ => ws_117, wi_117, fun h => absurd h (by decide)⟩⟩
theorem pii_236 : piOk (24, 25, 84, 0, 2) := ⟨(tm2 (i := 191) rfl rfl), fun _ => ⟨by decide, by decide +kernel, fun _ => ws_84, wi_84, fun h => absurd h (by decide)⟩⟩
theorem pii_237 : piOk (24, 29, 118, 0, 2) := ⟨(tm5 (i := 171) rfl rfl), fun _ => ⟨by decide, by decide +kernel, fun _ => ws_118, wi_118, fun h => absurd h (by decide)⟩⟩
theorem pii_238 : piOk (24, 30, 85, 0, 2) := ⟨(tm2 (i := 199) rfl rfl), fun _ => ⟨by decide, by decide +kernel, fun _ => ws_85, wi_85, fun h => absurd h (by decide)⟩⟩
theorem pii_239 : piOk (24, 33, 121, 0, 2) := ⟨(tm5 (i := 176) rfl rfl), fun _ => ⟨by decide, by decide +kernel, fun _ => ws_121, wi_121, fun h => absurd h (by decide)⟩⟩
theorem pii_240 : piOk (24, 34, 86, 0, 2) := ⟨(tm2 (i := 218) rfl rfl), fun _ => ⟨by decide, by decide +kernel, fun _ => ws_86, wi_86, fun h => absurd h (by decide)⟩⟩
theorem pii_241 : piOk (24, 37, 122, 0, 2) := ⟨(tm5 (i := 188) rfl rfl), fun _ => ⟨by decide, by decide +kernel, fun _ => ws_122, wi_122, fun h => absurd h (by decide)⟩⟩
theorem pii_242 : piOk (24, 38, 87, 0, 1) := ⟨(tm2 (i := 222) rfl rfl), fun _ => ⟨by decide, by decide +kernel, fun _ => ws_87, wi_87, fun h => absurd h (by decide)⟩⟩
theorem pii_243 : piOk (24, 42, 125, 0, 1) := ⟨(tm5 (i := 192) rfl rfl), fun _ => ⟨by decide, by decide +kernel, fun _ => ws_125, wi_125, fun h => absurd h (by decide)⟩⟩
theorem pii_244 : piOk (24, 43, 88, 0, 2) := ⟨(tm2 (i := 235) rfl rfl), fun _ => ⟨by decide, by decide +kernel, fun _ => ws_88, wi_88, fun h => absurd h (by decide)⟩⟩
theorem pii_245 : piOk (24, 46, 126, 0, 2) := ⟨(tm5 (i := 204) rfl rfl), fun _ => ⟨by decide, by decide +kernel, fun _ => ws_126, wi_126, fun h => absurd h (by decide)⟩⟩
theorem pii_246 : piOk (24, 47, 89, 0, 3) := ⟨(tm2 (i := 239) rfl rfl), fun _ => ⟨by decide, by decide +kernel, fun _ => ws_89, wi_89, fun h => absurd h (by decide)⟩⟩
theorem pii_247 : piOk (24, 51, 127, 0, 3) := ⟨(tm5 (i := 208) rfl rfl), fun _ => ⟨by decide, by decide +kernel, fun _ => ws_127, wi_127, fun h => absurd h (by decide)⟩⟩
theorem pii_248 : piOk (24, 52, 90, 0, 0) := ⟨(tm3 (i := 3) rfl rfl), fun _ => ⟨by decide, by decide +kernel, fun _ => ws_90, wi_90, fun h => absurd h (by decide)⟩⟩
theorem pii_249 : piOk (24, 56, 128, 0, 0) := ⟨(tm5 (i := 212) rfl rfl), fun _ => ⟨by decide, by decide +kernel, fun _ => ws_128, wi_128, fun h => absurd h (by decide)⟩⟩
theorem pii_250 : piOk (24, 57, 91, 0, 2) := ⟨(tm3 (i := 67) rfl rfl), fun _ => ⟨by decide, by decide +kernel, fun _ => ws_91, wi_91, fun h => absurd h (by decide)⟩⟩
theorem pii_251 : piOk (24, 60, 132, 0, 2) := ⟨(tm5 (i := 216) rfl rfl), fun _ => ⟨by decide, by decide +kernel, fun _ => ws_132, wi_132, fun h => absurd h (by decide)⟩⟩
theorem pii_252 : piOk (24, 61, 92, 0, 2) := ⟨(tm3 (i := 110) rfl rfl), fun _ => ⟨by decide, by decide +kernel, fun _ => ws_92, wi_92, fun h => absurd h (by decide)⟩⟩
theorem pii_253 : piOk (24, 64, 134, 0, 2) := ⟨(tm6 (i := 0) rfl rfl), fun _ => ⟨by decide, by decide +kernel, fun _ => ws_134, wi_134, fun h => absurd h (by decide)⟩⟩
theorem pii_254 : piOk (24, 65, 93, 0, 3) := ⟨(tm3 (i := 123) rfl rfl), fun _ => ⟨by decide, by decide +kernel, fun _ => ws_93, wi_93, fun h => absurd h (by decide)⟩⟩
theorem pii_255 : piOk (24, 68, 135, 0, 3) := ⟨(tm6 (i := 4) rfl rfl), fun _ => ⟨by decide, by decide +kernel, fun _ => ws_135, wi_135, fun h => absurd h (by decide)⟩⟩
theorem pii_256 : piOk (24, 69, 94, 0, 1) := ⟨(tm3 (i := 131) rfl rfl), fun _ => ⟨by decide, by decide +kernel, fun _ => ws_94, wi_94, fun h => absurd h (by decide)⟩⟩
theorem pii_257 : piOk (24, 72, 136, 0, 1) := ⟨(tm6 (i := 8) rfl rfl), fun _ => ⟨by decide, by decide +kernel, fun _ => ws_136, wi_136, fun h => absurd h (by decide)⟩⟩
theorem pii_258 : piOk (24, 73, 95, 0, 2) := ⟨(tm3 (i := 141) rfl rfl), fun _ => ⟨by decide, by decide +kernel, fun _ => ws_95, wi_95, fun h => absurd h (by decide)⟩⟩
theorem pii_259 : piOk (24, 76, 137, 0, 2) := ⟨(tm6 (i := 12) rfl rfl), fun _ => ⟨by decide, by decide +kernel, fun _ => ws_137, wi_137, fun h => absurd h (by decide)⟩⟩
theorem pii_260 : piOk (24, 77, 96, 0, 2) := ⟨(tm3 (i := 151) rfl rfl), fun _ => ⟨by decide, by decide +kernel, fun _ => ws_96, wi_96, fun h => absurd h (by decide)⟩⟩
theorem pii_261 : piOk (24, 80, 138, 0, 2) := ⟨(tm6 (i := 16) rfl rfl), fun _ => ⟨by decide, by decide +kernel, fun _ => ws_138, wi_138, fun h => absurd h (by decide)⟩⟩
theorem pii_262 : piOk (24, 81, 97, 0, 2) := ⟨(tm3 (i := 156) rfl rfl), fun _ => ⟨by decide, by decide +kernel, fun _ => ws_97, wi_97, fun h => absurd h (by decide)⟩⟩
theorem pii_263 : piOk (24, 84, 173, 0, 2) := ⟨(tm6 (i := 61) rfl rfl), fun _ => ⟨by decide, by decide +kernel, fun _ => ws_173, wi_173, fun h => absurd h (by decide)⟩⟩
theorem pii_264 : piOk (24, 85, 98, 0, 2) := ⟨(tm4 (i := 161) rfl rfl), fun _ => ⟨by decide, by decide +kernel, fun _ => ws_98, wi_98, fun h => absurd h (by decide)⟩⟩
theorem pii_265 : piOk (24, 88, 174, 0, 2) := ⟨(tm6 (i := 161) rfl rfl), fun _ => ⟨by decide, by decide +kernel, fun _ => ws_174, wi_174, fun h => absurd h (by decide)⟩⟩
theorem pii_266 : piOk (24, 89, 99, 0, 2) := ⟨(tm4 (i := 165) rfl rfl), fun _ => ⟨by decide, by decide +kernel, fun _ => ws_99, wi_99, fun h => absurd h (by decide)⟩⟩
theorem pii_267 : piOk (24, 92, 148, 0, 2) := ⟨(tm6 (i := 49) rfl rfl), fun _ => ⟨by decide, by decide +kernel, fun _ => ws_148, wi_148, fun h => absurd h (by decide)⟩⟩
theorem pii_268 : piOk (24, 93, 100, 0, 2) := ⟨(tm4 (i := 169) rfl rfl), fun _ => ⟨by decide, by decide +kernel, fun _ => ws_100, wi_100, fun h => absurd h (by decide)⟩⟩
theorem pii_269 : piOk (24, 97, 145, 0, 2) := ⟨(tm6 (i := 20) rfl rfl), fun _ => ⟨by decide, by decide +kernel, fun _ => ws_145, wi_145, fun h => absurd h (by decide)⟩⟩
theorem pii_270 : piOk (24, 98, 101, 0, 1) := ⟨(tm4 (i := 174) rfl rfl), fun _ => ⟨by decide, by decide +kernel, fun _ => ws_101, wi_101, fun h => absurd h (by decide)⟩⟩
theorem pii_271 : piOk (24, 101, 175, 0, 1) := ⟨(tm6 (i := 165) rfl rfl), fun _ => ⟨by decide, by decide +kernel, fun _ => ws_175, wi_175, fun h => absurd h (by decide)⟩⟩
theorem pii_272 : piOk (24, 102, 102, 0, 1) := ⟨(tm4 (i := 183) rfl rfl), fun _ => ⟨by decide, by decide +kernel, fun _ => ws_102, wi_102, fun h => absurd h (by decide)⟩⟩
theorem pii_273 : piOk (24, 105, 176, 0, 1) := ⟨(tm6 (i := 169) rfl rfl), fun _ => ⟨by decide, by decide +kernel, fun _ => ws_176, wi_176, fun h => absurd h (by decide)⟩⟩
theorem pii_274 : piOk (24, 106, 103, 0, 2) := ⟨(tm4 (i := 188) rfl rfl), fun _ => ⟨by decide, by decide +kernel, fun _ => ws_103, wi_103, fun h => absurd h (by decide)⟩⟩
theorem pii_275 : piOk (24, 109, 177, 0, 2) := ⟨(tm6 (i := 173) rfl rfl), fun _ => ⟨by decide, by decide +kernel, fun _ => ws_177, wi_177, fun h => absurd h (by decide)⟩⟩
theorem pii_276 : piOk (24, 110, 104, 0, 0) := ⟨(tm4 (i := 196) rfl rfl), fun _ => ⟨by decide, by decide +kernel, fun _ => ws_104, wi_104, fun h => absurd h (by decide)⟩⟩
theorem pii_277 : piOk (24, 113, 178, 0, 0) := ⟨(tm6 (i := 178) rfl rfl), fun _ => ⟨by decide, by decide +kernel, fun _ => ws_178, wi_178, fun h => absurd h (by decide)⟩⟩
theorem pii_278 : piOk (24, 114, 105, 0, 1) := ⟨(tm4 (i := 205) rfl rfl), fun _ => ⟨by decide, by decide +kernel, fun _ => ws_105, wi_105, fun h => absurd h (by decide)⟩⟩
theorem pii_279 : piOk (24, 117, 179, 0, 1) := ⟨(tm6 (i := 182) rfl rfl), fun _ => ⟨by decide, by decide +kernel, fun _ => ws_179, wi_179, fun h => absurd h (by decide)⟩⟩
theorem pii_280 : piOk (24, 118, 106, 0, 0) := ⟨(tm4 (i := 209) rfl rfl), fun _ => ⟨by decide, by decide +kernel, fun _ => ws_106, wi_106, fun h => absurd h (by decide)⟩⟩
theorem pii_281 : piOk (24, 121, 180, 0, 0) := ⟨(tm6 (i := 186) rfl rfl), fun _ => ⟨by decide, by decide +kernel, fun _ => ws_180, wi_180, fun h => absurd h (by decide)⟩⟩
theorem pi_ok_g0 : ∀ q ∈ (zPI.drop 0).take 25, piOk q := List.forall_mem_cons.mpr ⟨pii_0, List.forall_mem_cons.mpr ⟨pii_1, List.forall_mem_cons.mpr ⟨pii_2, List.forall_mem_cons.mpr ⟨pii_3, List.forall_mem_cons.mpr ⟨pii_4, List.forall_mem_cons.mpr ⟨pii_5, List.forall_mem_cons.mpr ⟨pii_6, List.forall_mem_cons.mpr ⟨pii_7, List.forall_mem_cons.mpr ⟨pii_8, List.forall_mem_cons.mpr ⟨pii_9, List.forall_mem_cons.mpr ⟨pii_10, List.forall_mem_cons.mpr ⟨pii_11, List.forall_mem_cons.mpr ⟨pii_12, List.forall_mem_cons.mpr ⟨pii_13, List.forall_mem_cons.mpr ⟨pii_14, List.forall_mem_cons.mpr ⟨pii_15, List.forall_mem_cons.mpr ⟨pii_16, List.forall_mem_cons.mpr ⟨pii_17, List.forall_mem_cons.mpr ⟨pii_18, List.forall_mem_cons.mpr ⟨pii_19, List.forall_mem_cons.mpr ⟨pii_20, List.forall_mem_cons.mpr ⟨pii_21, List.forall_mem_cons.mpr ⟨pii_22, List.forall_mem_cons.mpr ⟨pii_23, List.forall_mem_cons.mpr ⟨pii_24, fun _ h => absurd h List.not_mem_nil⟩⟩⟩⟩⟩⟩⟩⟩⟩⟩⟩⟩⟩⟩⟩⟩⟩⟩⟩⟩⟩⟩⟩⟩⟩
theorem pi_ok_g1 : ∀ q ∈ (zPI.drop 25).take 25, piOk q := List.forall_mem_cons.mpr ⟨pii_25, List.forall_mem_cons.mpr ⟨pii_26, List.forall_mem_cons.mpr ⟨pii_27, List.forall_mem_cons.mpr ⟨pii_28, List.forall_mem_cons.mpr ⟨pii_29, List.forall_mem_cons.mpr ⟨pii_30, List.forall_mem_cons.mpr ⟨pii_31, List.forall_mem_cons.mpr ⟨pii_32, List.forall_mem_cons.mpr ⟨pii_33, List.forall_mem_cons.mpr ⟨pii_34, List.forall_mem_cons.mpr ⟨pii_35, List.forall_mem_cons.mpr ⟨pii_36, List.forall_mem_cons.mpr ⟨pii_37, List.forall_mem_cons.mpr ⟨pii_38, List.forall_mem_cons.mpr ⟨pii_39, List.forall_mem_cons.mpr ⟨pii_40, List.forall_mem_cons.mpr ⟨pii_41, List.forall_mem_cons.mpr ⟨pii_42, List.forall_mem_cons.mpr ⟨pii_43, List.forall_mem_cons.mpr ⟨pii_44, List.forall_mem_cons.mpr ⟨pii_45, List.forall_mem_cons.mpr ⟨pii_46, List.forall_mem_cons.mpr ⟨pii_47, List.forall_mem_cons.mpr ⟨pii_48, List.forall_mem_cons.mpr ⟨pii_49, fun _ h => absurd h List.not_mem_nil⟩⟩⟩⟩⟩⟩⟩⟩⟩⟩⟩⟩⟩⟩⟩⟩⟩⟩⟩⟩⟩⟩⟩⟩⟩
theorem pi_ok_g2 : ∀ q ∈ (zPI.drop 50).take 25, piOk q := List.forall_mem_cons.mpr ⟨pii_50, List.forall_mem_cons.mpr ⟨pii_51, List.forall_mem_cons.mpr ⟨pii_52, List.forall_mem_cons.mpr ⟨pii_53, List.forall_mem_cons.mpr ⟨pii_54, List.forall_mem_cons.mpr ⟨pii_55, List.forall_mem_cons.mpr ⟨pii_56, List.forall_mem_cons.mpr ⟨pii_57, List.forall_mem_cons.mpr ⟨pii_58, List.forall_mem_cons.mpr ⟨pii_59, List.forall_mem_cons.mpr ⟨pii_60, List.forall_mem_cons.mpr ⟨pii_61, List.forall_mem_cons.mpr ⟨pii_62, List.forall_mem_cons.mpr ⟨pii_63, List.forall_mem_cons.mpr ⟨pii_64, List.forall_mem_cons.mpr ⟨pii_65, List.forall_mem_cons.mpr ⟨pii_66, List.forall_mem_cons.mpr ⟨pii_67, List.forall_mem_cons.mpr ⟨pii_68, List.forall_mem_cons.mpr ⟨pii_69, List.forall_mem_cons.mpr ⟨pii_70, List.forall_mem_cons.mpr ⟨pii_71, List.forall_mem_cons.mpr ⟨pii_72, List.forall_mem_cons.mpr ⟨pii_73, List.forall_mem_cons.mpr ⟨pii_74, fun _ h => absurd h List.not_mem_nil⟩⟩⟩⟩⟩⟩⟩⟩⟩⟩⟩⟩⟩⟩⟩⟩⟩⟩⟩⟩⟩⟩⟩⟩⟩
theorem pi_ok_g3 : ∀ q ∈ (zPI.drop 75).take 25, piOk q := List.forall_mem_cons.mpr ⟨pii_75, List.forall_mem_cons.mpr ⟨pii_76, List.forall_mem_cons.mpr ⟨pii_77, List.forall_mem_cons.mpr ⟨pii_78, List.forall_mem_cons.mpr ⟨pii_79, List.forall_mem_cons.mpr ⟨pii_80, List.forall_mem_cons.mpr ⟨pii_81, List.forall_mem_cons.mpr ⟨pii_82, List.forall_mem_cons.mpr ⟨pii_83, List.forall_mem_cons.mpr ⟨pii_84, List.forall_mem_cons.mpr ⟨pii_85, List.forall_mem_cons.mpr ⟨pii_86, List.forall_mem_cons.mpr ⟨pii_87, List.forall_mem_cons.mpr ⟨pii_88, List.forall_mem_cons.mpr ⟨pii_89, List.forall_mem_cons.mpr ⟨pii_90, List.forall_mem_cons.mpr ⟨pii_91, List.forall_mem_cons.mpr ⟨pii_92, List.forall_mem_cons.mpr ⟨pii_93, List.forall_mem_cons.mpr ⟨pii_94, List.forall_mem_cons.mpr ⟨pii_95, List.forall_mem_cons.mpr ⟨pii_96, List.forall_mem_cons.mpr ⟨pii_97, List.forall_mem_cons.mpr ⟨pii_98, List.forall_mem_cons.mpr ⟨pii_99, fun _ h => absurd h List.not_mem_nil⟩⟩⟩⟩⟩⟩⟩⟩⟩⟩⟩⟩⟩⟩⟩⟩⟩⟩⟩⟩⟩⟩⟩⟩⟩
theorem pi_ok_g4 : ∀ q ∈ (zPI.drop 100).take 25, piOk q := List.forall_mem_cons.mpr ⟨pii_100, List.forall_mem_cons.mpr ⟨pii_101, List.forall_mem_cons.mpr ⟨pii_102, List.forall_mem_cons.mpr ⟨pii_103, List.forall_mem_cons.mpr ⟨pii_104, List.forall_mem_cons.mpr ⟨pii_105, List.forall_mem_cons.mpr ⟨pii_106, List.forall_mem_cons.mpr ⟨pii_107, List.forall_mem_cons.mpr ⟨pii_108, List.forall_mem_cons.mpr ⟨pii_109, List.forall_mem_cons.mpr ⟨pii_110, List.forall_mem_cons.mpr ⟨pii_111, List.forall_mem_cons.mpr ⟨pii_112, List.forall_mem_cons.mpr ⟨pii_113, List.forall_mem_cons.mpr ⟨pii_114, List.forall_mem_cons.mpr ⟨pii_115, List.forall_mem_cons.mpr ⟨pii_116, List.forall_mem_cons.mpr ⟨pii_117, List.forall_mem_cons.mpr ⟨pii_118, List.forall_mem_cons.mpr ⟨pii_119, List.forall_mem_cons.mpr ⟨pii_120, List.forall_mem_cons.mpr ⟨pii_121, List.forall_mem_cons.mpr ⟨pii_122, List.forall_mem_cons.mpr ⟨pii_123, List.forall_mem_cons.mpr ⟨pii_124, fun _ h => absurd h List.not_mem_nil⟩⟩⟩⟩⟩⟩⟩⟩⟩⟩⟩⟩⟩⟩⟩⟩⟩⟩⟩⟩⟩⟩⟩⟩⟩
theorem pi_ok_g5 : ∀ q ∈ (zPI.drop 125).take 25, piOk q := List.forall_mem_cons.mpr ⟨pii_125, List.forall_mem_cons.mpr ⟨pii_126, List.forall_mem_cons.mpr ⟨pii_127, List.forall_mem_cons.mpr ⟨pii_128, List.forall_mem_cons.mpr ⟨pii_129, List.forall_mem_cons.mpr ⟨pii_130, List.forall_mem_cons.mpr ⟨pii_131, List.forall_mem_cons.mpr ⟨pii_132, List.forall_mem_cons.mpr ⟨pii_133, List.forall_mem_cons.mpr ⟨pii_134, List.forall_mem_cons.mpr ⟨pii_135, List.forall_mem_cons.mpr ⟨pii_136, List.forall_mem_cons.mpr ⟨pii_137, List.forall_mem_cons.mpr ⟨pii_138, List.forall_mem_cons.mpr ⟨pii_139, List.forall_mem_cons.mpr ⟨pii_140, List.forall_mem_cons.mpr ⟨pii_141, List.forall_mem_cons.mpr ⟨pii_142, List.forall_mem_cons.mpr ⟨pii_143, List.forall_mem_cons.mpr ⟨pii_144, List.forall_mem_cons.mpr ⟨pii_145, List.forall_mem_cons.mpr ⟨pii_146, List.forall_mem_cons.mpr ⟨pii_147, List.forall_mem_cons.mpr ⟨pii_148, List.forall_mem_cons.mpr ⟨pii_149, fun _ h => absurd h List.not_mem_nil⟩⟩⟩⟩⟩⟩⟩⟩⟩⟩⟩⟩⟩⟩⟩⟩⟩⟩⟩⟩⟩⟩⟩⟩⟩
theorem pi_ok_g6 : ∀ q ∈ (zPI.drop 150).take 25, piOk q := List.forall_mem_cons.mpr ⟨pii_150, List.forall_mem_cons.mpr ⟨pii_151, List.forall_mem_cons.mpr ⟨pii_152, List.forall_mem_cons.mpr ⟨pii_153, List.forall_mem_cons.mpr ⟨pii_154, List.forall_mem_cons.mpr ⟨pii_155, List.forall_mem_cons.mpr ⟨pii_156, List.forall_mem_cons.mpr ⟨pii_157, List.forall_mem_cons.mpr ⟨pii_158, List.forall_mem_cons.mpr ⟨pii_159, List.forall_mem_cons.mpr ⟨pii_160, List.forall_mem_cons.mpr ⟨pii_161, List.forall_mem_cons.mpr ⟨pii_162, List.forall_mem_cons.mpr ⟨pii_163, List.forall_mem_cons.mpr ⟨pii_164, List.forall_mem_cons.mpr ⟨pii_165, List.forall_mem_cons.mpr ⟨pii_166, List.forall_mem_cons.mpr ⟨pii_167, List.forall_mem_cons.mpr ⟨pii_168, List.forall_mem_cons.mpr ⟨pii_169, List.forall_mem_cons.mpr ⟨pii_170, List.forall_mem_cons.mpr ⟨pii_171, List.forall_mem_cons.mpr ⟨pii_172, List.forall_mem_cons.mpr ⟨pii_173, List.forall_mem_cons.mpr ⟨pii_174, fun _ h => absurd h List.not_mem_nil⟩⟩⟩⟩⟩⟩⟩⟩⟩⟩⟩⟩⟩⟩⟩⟩⟩⟩⟩⟩⟩⟩⟩⟩⟩
theorem pi_ok_g7 : ∀ q ∈ (zPI.drop 175).take 25, piOk q := List.forall_mem_cons.mpr ⟨pii_175, List.forall_mem_cons.mpr ⟨pii_176, List.forall_mem_cons.mpr ⟨pii_177, List.forall_mem_cons.mpr ⟨pii_178, List.forall_mem_cons.mpr ⟨pii_179, List.forall_mem_cons.mpr ⟨pii_180, List.forall_mem_cons.mpr ⟨pii_181, List.forall_mem_cons.mpr ⟨pii_182, List.forall_mem_cons.mpr ⟨pii_183, List.forall_mem_cons.mpr ⟨pii_184, List.forall_mem_cons.mpr ⟨pii_185, List.forall_mem_cons.mpr ⟨pii_186, List.forall_mem_cons.mpr ⟨pii_187, List.forall_mem_cons.mpr ⟨pii_188, List.forall_mem_cons.mpr ⟨pii_189, List.forall_mem_cons.mpr ⟨pii_190, List.forall_mem_cons.mpr ⟨pii_191, List.forall_mem_cons.mpr ⟨pii_192, List.forall_mem_cons.mpr ⟨pii_193, List.forall_mem_cons.mpr ⟨pii_194, List.forall_mem_cons.mpr ⟨pii_195, List.forall_mem_cons.mpr ⟨pii_196, List.forall_mem_cons.mpr ⟨pii_197, List.forall_mem_cons.mpr ⟨pii_198, List.forall_mem_cons.mpr ⟨pii_199, fun _ h => absurd h List.not_mem_nil⟩⟩⟩⟩⟩⟩⟩⟩⟩⟩⟩⟩⟩⟩⟩⟩⟩⟩⟩⟩⟩⟩⟩⟩⟩
theorem pi_ok_g8 : ∀ q ∈ (zPI.drop 200).take 25, piOk q := List.forall_mem_cons.mpr ⟨pii_200, List.forall_mem_cons.mpr ⟨pii_201, List.forall_mem_cons.mpr ⟨pii_202, List.forall_mem_cons.mpr ⟨pii_203, List.forall_mem_cons.mpr ⟨pii_204, List.forall_mem_cons.mpr ⟨pii_205, List.forall_mem_cons.mpr ⟨pii_206, List.forall_mem_cons.mpr ⟨pii_207, List.forall_mem_cons.mpr ⟨pii_208, List.forall_mem_cons.mpr ⟨pii_209, List.forall_mem_cons.mpr ⟨pii_210, List.forall_mem_cons.mpr ⟨pii_211, List.forall_mem_cons.mpr ⟨pii_212, List.forall_mem_cons.mpr ⟨pii_213, List.forall_mem_cons.mpr ⟨pii_214, List.forall_mem_cons.mpr ⟨pii_215, List.forall_mem_cons.mpr ⟨pii_216, List.forall_mem_cons.mpr ⟨pii_217, List.forall_mem_cons.mpr ⟨pii_218, List.forall_mem_cons.mpr ⟨pii_219, List.forall_mem_cons.mpr ⟨pii_220, List.forall_mem_cons.mpr ⟨pii_221, List.forall_mem_cons.mpr ⟨pii_222, List.forall_mem_cons.mpr ⟨pii_223, List.forall_mem_cons.mpr ⟨pii_224, fun _ h => absurd h List.not_mem_nil⟩⟩⟩⟩⟩⟩⟩⟩⟩⟩⟩⟩⟩⟩⟩⟩⟩⟩⟩⟩⟩⟩⟩⟩⟩
theorem pi_ok_g9 : ∀ q ∈ (zPI.drop 225).take 25, piOk q := List.forall_mem_cons.mpr ⟨pii_225, List.forall_mem_cons.mpr ⟨pii_226, List.forall_mem_cons.mpr ⟨pii_227, List.forall_mem_cons.mpr ⟨pii_228, List.forall_mem_cons.mpr ⟨pii_229, List.forall_mem_cons.mpr ⟨pii_230, List.forall_mem_cons.mpr ⟨pii_231, List.forall_mem_cons.mpr ⟨pii_232, List.forall_mem_cons.mpr ⟨pii_233, List.forall_mem_cons.mpr ⟨pii_234, List.forall_mem_cons.mpr ⟨pii_235, List.forall_mem_cons.mpr ⟨pii_236, List.forall_mem_cons.mpr ⟨pii_237, List.forall_mem_cons.mpr ⟨pii_238, List.forall_mem_cons.mpr ⟨pii_239, List.forall_mem_cons.mpr ⟨pii_240, List.forall_mem_cons.mpr ⟨pii_241, List.forall_mem_cons.mpr ⟨pii_242, List.forall_mem_cons.mpr ⟨pii_243, List.forall_mem_cons.mpr ⟨pii_244, List.forall_mem_cons.mpr ⟨pii_245, List.forall_mem_cons.mpr ⟨pii_246, List.forall_mem_cons.mpr ⟨pii_247, List.forall_mem_cons.mpr ⟨pii_248, List.forall_mem_cons.mpr ⟨pii_249, fun _ h => absurd h List.not_mem_nil⟩⟩⟩⟩⟩⟩⟩⟩⟩⟩⟩⟩⟩⟩⟩⟩⟩⟩⟩⟩⟩⟩⟩⟩⟩
theorem pi_ok_g10 : ∀ q ∈ (zPI.drop 250).take 25, piOk q := List.forall_mem_cons.mpr ⟨pii_250, List.forall_mem_cons.mpr ⟨pii_251, List.forall_mem_cons.mpr ⟨pii_252, List.forall_mem_cons.mpr ⟨pii_253, List.forall_mem_cons.mpr ⟨pii_254, List.forall_mem_cons.mpr ⟨pii_255, List.forall_mem_cons.mpr ⟨pii_256, List.forall_mem_cons.mpr ⟨pii_257, List.forall_mem_cons.mpr ⟨pii_258, List.forall_mem_cons.mpr ⟨pii_259, List.forall_mem_cons.mpr ⟨pii_260, List.forall_mem_cons.mpr ⟨pii_261, List.forall_mem_cons.mpr ⟨pii_262, List.forall_mem_cons.mpr ⟨pii_263, List.forall_mem_cons.mpr ⟨pii_264, List.forall_mem_cons.mpr ⟨pii_265, List.forall_mem_cons.mpr ⟨pii_266, List.forall_mem_cons.mpr ⟨pii_267, List.forall_mem_cons.mpr ⟨pii_268, List.forall_mem_cons.mpr ⟨pii_269, List.forall_mem_cons.mpr ⟨pii_270, List.forall_mem_cons.mpr ⟨pii_271, List.forall_mem_cons.mpr ⟨pii_272, List.forall_mem_cons.mpr ⟨pii_273, List.forall_mem_cons.mpr ⟨pii_274, fun _ h => absurd h List.not_mem_nil⟩⟩⟩⟩⟩⟩⟩⟩⟩⟩⟩⟩⟩⟩⟩⟩⟩⟩⟩⟩⟩⟩⟩⟩⟩
theorem pi_ok_g11 : ∀ q ∈ (zPI.drop 275).take 25, piOk q := List.forall_mem_cons.mpr ⟨pii_275, List.forall_mem_cons.mpr ⟨pii_276, List.forall_mem_cons.mpr ⟨pii_277, List.forall_mem_cons.mpr ⟨pii_278, List.forall_mem_cons.mpr ⟨pii_279, List.forall_mem_cons.mpr ⟨pii_280, List.forall_mem_cons.mpr ⟨pii_281, fun _ h => absurd h List.not_mem_nil⟩⟩⟩⟩⟩⟩⟩
theorem pi_ok_cut : zPI = (zPI.drop 0).take 25 ++ ((zPI.drop 25).take 25 ++ ((zPI.drop 50).take 25 ++ ((zPI.drop 75).take 25 ++ ((zPI.drop 100).take 25 ++ ((zPI.drop 125).take 25 ++ ((zPI.drop 150).take 25 ++ ((zPI.drop 175).take 25 ++ ((zPI.drop 200).take 25 ++ ((zPI.drop 225).take 25 ++ ((zPI.drop 250).take 25 ++ ((zPI.drop 275).take 25))))))))))) := by decide +kernel
theorem pi_ok : ∀ q ∈ zPI, piOk q := by
  rw [pi_ok_cut]
  exact List.forall_mem_append.mpr ⟨pi_ok_g0, List.forall_mem_append.mpr ⟨pi_ok_g1, List.forall_mem_append.mpr ⟨pi_ok_g2, List.forall_mem_append.mpr ⟨pi_ok_g3, List.forall_mem_append.mpr ⟨pi_ok_g4, List.forall_mem_append.mpr ⟨pi_ok_g5, List.forall_mem_append.mpr ⟨pi_ok_g6, List.forall_mem_append.mpr ⟨pi_ok_g7, List.forall_mem_append.mpr ⟨pi_ok_g8, List.forall_mem_append.mpr ⟨pi_ok_g9, List.forall_mem_append.mpr ⟨pi_ok_g10, pi_ok_g11⟩⟩⟩⟩⟩⟩⟩⟩⟩⟩⟩
def pcOk (q : Nat × Nat × Nat) : Prop := .classLink (cNm q.1) q.2.1 (cNm q.2.2) ∈ bigW
theorem pci_0 : pcOk (0, 9, 13) := (tm3 (i := 22) rfl rfl)
theorem pci_1 : pcOk (0, 28, 5) := (tm3 (i := 24) rfl rfl)
theorem pci_2 : pcOk (0, 51, 8) := (tm3 (i := 86) rfl rfl)
theorem pci_3 : pcOk (1, 9, 13) := (tm1 (i := 232) rfl rfl)
theorem pci_4 : pcOk (1, 48, 3) := (tm3 (i := 234) rfl rfl)
theorem pci_5 : pcOk (3, 7, 5) := (tm4 (i := 9) rfl rfl)
theorem pci_6 : pcOk (3, 16, 7) := (tm4 (i := 11) rfl rfl)
theorem pci_7 : pcOk (4, 9, 13) := (tm1 (i := 219) rfl rfl)
theorem pci_8 : pcOk (4, 26, 0) := (tm3 (i := 16) rfl rfl)
theorem pci_9 : pcOk (4, 40, 8) := (tm3 (i := 109) rfl rfl)
theorem pci_10 : pcOk (5, 57, 8) := (tm3 (i := 188) rfl rfl)
theorem pci_11 : pcOk (7, 9, 2) := (tm2 (i := 86) rfl rfl)
theorem pci_12 : pcOk (8, 9, 2) := (tm1 (i := 78) rfl rfl)
theorem pci_13 : pcOk (8, 12, 8) := (tm2 (i := 177) rfl rfl)
theorem pci_14 : pcOk (8, 17, 13) := (tm1 (i := 80) rfl rfl)
theorem pci_15 : pcOk (9, 9, 2) := (tm2 (i := 20) rfl rfl)
theorem pci_16 : pcOk (9, 114, 8) := (tm4 (i := 78) rfl rfl)
theorem pci_17 : pcOk (10, 9, 13) := (tm1 (i := 38) rfl rfl)
theorem pci_18 : pcOk (10, 24, 8) := (tm1 (i := 72) rfl rfl)
theorem pci_19 : pcOk (11, 9, 10) := (tm1 (i := 32) rfl rfl)
theorem pci_20 : pcOk (11, 16, 2) := (tm1 (i := 211) rfl rfl)
theorem pci_21 : pcOk (11, 23, 4) := (tm1 (i := 213) rfl rfl)
theorem pci_22 : pcOk (11, 30, 1) := (tm1 (i := 226) rfl rfl)
theorem pci_23 : pcOk (11, 37, 9) := (tm2 (i := 14) rfl rfl)
theorem pci_24 : pcOk (11, 44, 6) := (tm2 (i := 29) rfl rfl)
theorem pci_25 : pcOk (11, 51, 5) := (tm2 (i := 58) rfl rfl)
theorem pci_26 : pcOk (11, 58, 7) := (tm2 (i := 80) rfl rfl)
theorem pci_27 : pcOk (11, 262, 3) := (tm4 (i := 194) rfl rfl)
theorem pci_28 : pcOk (24, 7, 11) := (tm1 (i := 24) rfl rfl)
theorem pci_29 : pcOk (24, 10, 12) := (tm4 (i := 224) rfl rfl)
theorem pc_ok_g0 : ∀ q ∈ (zPC.drop 0).take 25, pcOk q := List.forall_mem_cons.mpr ⟨pci_0, List.forall_mem_cons.mpr ⟨pci_1, List.forall_mem_cons.mpr ⟨pci_2, List.forall_mem_cons.mpr ⟨pci_3, List.forall_mem_cons.mpr ⟨pci_4, List.forall_mem_cons.mpr ⟨pci_5, List.forall_mem_cons.mpr ⟨pci_6, List.forall_mem_cons.mpr ⟨pci_7, List.forall_mem_cons.mpr ⟨pci_8, List.forall_mem_cons.mpr ⟨pci_9, List.forall_mem_cons.mpr ⟨pci_10, List.forall_mem_cons.mpr ⟨pci_11, List.forall_mem_cons.mpr ⟨pci_12, List.forall_mem_cons.mpr ⟨pci_13, List.forall_mem_cons.mpr ⟨pci_14, List.forall_mem_cons.mpr ⟨pci_15, List.forall_mem_cons.mpr ⟨pci_16, List.forall_mem_cons.mpr ⟨pci_17, List.forall_mem_cons.mpr ⟨pci_18, List.forall_mem_cons.mpr ⟨pci_19, List.forall_mem_cons.mpr ⟨pci_20, List.forall_mem_cons.mpr ⟨pci_21, List.forall_mem_cons.mpr ⟨pci_22, List.forall_mem_cons.mpr ⟨pci_23, List.forall_mem_cons.mpr ⟨pci_24, fun _ h => absurd h List.not_mem_nil⟩⟩⟩⟩⟩⟩⟩⟩⟩⟩⟩⟩⟩⟩⟩⟩⟩⟩⟩⟩⟩⟩⟩⟩⟩
theorem pc_ok_g1 : ∀ q ∈ (zPC.drop 25).take 25, pcOk q := List.forall_mem_cons.mpr ⟨pci_25, List.forall_mem_cons.mpr ⟨pci_26, List.forall_mem_cons.mpr ⟨pci_27, List.forall_mem_cons.mpr ⟨pci_28, List.forall_mem_cons.mpr ⟨pci_29, fun _ h => absurd h List.not_mem_nil⟩⟩⟩⟩⟩
theorem pc_ok_cut : zPC = (zPC.drop 0).take 25 ++ ((zPC.drop 25).take 25) := by decide +kernel
theorem pc_ok : ∀ q ∈ zPC, pcOk q := by
  rw [pc_ok_cut]
  exact List.forall_mem_append.mpr ⟨pc_ok_g0, pc_ok_g1⟩
def pkOk (q : Nat × Nat × Int) : Prop := .constant (cNm q.1) q.2.1 (Int32.ofInt q.2.2) ∈ bigW
theorem pki_0 : pkOk (12, 60, 34000) := (tm4 (i := 230) rfl rfl)
theorem pki_1 : pkOk (12, 76, 42925) := (tm4 (i := 231) rfl rfl)
theorem pki_2 : pkOk (19, 200, 2147483639) := (tm1 (i := 168) rfl rfl)
theorem pk_ok_g0 : ∀ q ∈ (zPK.drop 0).take 25, pkOk q := List.forall_mem_cons.mpr ⟨pki_0, List.forall_mem_cons.mpr ⟨pki_1, List.forall_mem_cons.mpr ⟨pki_2, fun _ h => absurd h List.not_mem_nil⟩⟩⟩
theorem pk_ok_cut : zPK = (zPK.drop 0).take 25 := by decide +kernel
theorem pk_ok : ∀ q ∈ zPK, pkOk q := by
  rw [pk_ok_cut]
  exact  pk_ok_g0
def plOk (q : Nat × Nat × Int) : Prop := .constantLong (cNm q.1) q.2.1 (Int64.ofInt q.2.2) ∈ bigW
theorem pli_0 : plOk (5, 98, 1469598103934665603) := (tm3 (i := 230) rfl rfl)
theorem pli_1 : plOk (5, 100, 1099511628211) := (tm3 (i := 231) rfl rfl)
theorem pli_2 : plOk (11, 217, -1) := (tm4 (i := 160) rfl rfl)
theorem pli_3 : plOk (11, 256, -9223372036854775808) := (tm4 (i := 192) rfl rfl)
theorem pli_4 : plOk (12, 154, 255) := (tm5 (i := 175) rfl rfl)
theorem pli_5 : plOk (12, 206, 1469598103934665603) := (tm6 (i := 47) rfl rfl)
theorem pli_6 : plOk (12, 208, 1099511628211) := (tm6 (i := 48) rfl rfl)
theorem pli_7 : plOk (12, 323, -9223372036854775808) := (tm6 (i := 177) rfl rfl)
theorem pli_8 : plOk (20, 314, 6148914691236517205) := (tm3 (i := 148) rfl rfl)
theorem pli_9 : plOk (20, 316, 3689348814741910323) := (tm3 (i := 149) rfl rfl)
theorem pli_10 : plOk (20, 318, 1085102592571150095) := (tm3 (i := 150) rfl rfl)
theorem pli_11 : plOk (24, 23, 4294967295) := (tm6 (i := 191) rfl rfl)
theorem pl_ok_g0 : ∀ q ∈ (zPL.drop 0).take 25, plOk q := List.forall_mem_cons.mpr ⟨pli_0, List.forall_mem_cons.mpr ⟨pli_1, List.forall_mem_cons.mpr ⟨pli_2, List.forall_mem_cons.mpr ⟨pli_3, List.forall_mem_cons.mpr ⟨pli_4, List.forall_mem_cons.mpr ⟨pli_5, List.forall_mem_cons.mpr ⟨pli_6, List.forall_mem_cons.mpr ⟨pli_7, List.forall_mem_cons.mpr ⟨pli_8, List.forall_mem_cons.mpr ⟨pli_9, List.forall_mem_cons.mpr ⟨pli_10, List.forall_mem_cons.mpr ⟨pli_11, fun _ h => absurd h List.not_mem_nil⟩⟩⟩⟩⟩⟩⟩⟩⟩⟩⟩⟩
theorem pl_ok_cut : zPL = (zPL.drop 0).take 25 := by decide +kernel
theorem pl_ok : ∀ q ∈ zPL, plOk q := by
  rw [pl_ok_cut]
  exact  pl_ok_g0
theorem an_ok : ∀ w ∈ zAN, w ∈ bigW := List.forall_mem_cons.mpr ⟨(tm1 (i := 78) rfl rfl), List.forall_mem_cons.mpr ⟨(tm1 (i := 198) rfl rfl), List.forall_mem_cons.mpr ⟨(tm1 (i := 206) rfl rfl), List.forall_mem_cons.mpr ⟨(tm2 (i := 86) rfl rfl), List.forall_mem_cons.mpr ⟨(tm3 (i := 24) rfl rfl), fun _ h => absurd h List.not_mem_nil⟩⟩⟩⟩⟩
theorem w_stat : Cond.fieldLink "java/util/ArrayList" 39 "java/util/ArrayList" "DEFAULTCAPACITY_EMPTY_ELEMENTDATA" "[Ljava/lang/Object;" ∈ bigW := (tm1 (i := 50) rfl rfl)
theorem w_ldcM : Cond.classLink "java/util/Arrays" 110 "[Ljava/lang/Object;" ∈ bigW := (tm1 (i := 196) rfl rfl)
theorem w_mna : Cond.classLink "BuildCache$Log" 11 "[[I" ∈ bigW := (tm2 (i := 35) rfl rfl)
theorem w_aI : Cond.arrayClass .int ∈ bigW := (tm1 (i := 101) rfl rfl)
theorem w_aZ : Cond.arrayClass .boolean ∈ bigW := (tm5 (i := 155) rfl rfl)
theorem w_gcS : Cond.selects "[Ljava/lang/Object;" gcY gcY ∈ bigW := (tm6 (i := 207) rfl rfl)
theorem w_gcI : Cond.instanceMethod gcY ∈ bigW := (tm1 (i := 176) rfl rfl)
theorem w_gcN : Cond.native gcY ∈ bigW := (tm1 (i := 192) rfl rfl)
theorem w_acN : Cond.native arraycopyName ∈ bigW := (tm1 (i := 204) rfl rfl)
theorem w_acS : Cond.static arraycopyName ∈ bigW := (tm1 (i := 203) rfl rfl)
theorem w_acI : Cond.initialized "java/lang/System" ∈ bigW := (tm1 (i := 11) rfl rfl)
theorem w_oiI : Cond.instanceMethod objectInit ∈ bigW := (tm1 (i := 30) rfl rfl)
theorem w_oiC : Cond.code objectInit ⟨#[0xb1]⟩ 1 none ∈ bigW := (tm1 (i := 31) rfl rfl)
theorem w_maxS : Cond.static Lib.Math.max.name ∈ bigW := (tm1 (i := 166) rfl rfl)
theorem w_maxC : Cond.code Lib.Math.max.name Lib.Math.max.code 2 (some .int) ∈ bigW := (tm1 (i := 167) rfl rfl)
theorem w_minS : Cond.static Lib.Math.min.name ∈ bigW := (tm1 (i := 200) rfl rfl)
theorem w_minC : Cond.code Lib.Math.min.name Lib.Math.min.code 2 (some .int) ∈ bigW := (tm1 (i := 201) rfl rfl)
theorem w_mathI : Cond.initialized "java/lang/Math" ∈ bigW := (tm1 (i := 9) rfl rfl)
/-- a store into a final field stands in a constructor of the field's own class -/
def zPut (t : zR) (e : zE) : Bool :=
  match e with
  | (_, .putfield _, x, y, _) => decide (((cRow x).2.1 y).2.2.2 = false ∨ (((cRow x).2.1 y).2.2.2 = true ∧ ((cRow x).2.1 y).1 = cNm t.2.2.2.2.1 ∧ t.1.name = "<init>"))
  | _ => true
set_option maxRecDepth 100000 in
theorem zPut_ok : ∀ t ∈ zT, t.2.2.2.2.2.2.2.all (zPut t) = true := by decide +kernel
theorem zPut_at {m pc : Nat} {r : Instr × Nat × Nat × Int} (h : zcode m pc = some r) : zPut (mE m) (pc, r) = true :=
  List.all_eq_true.mp (zPut_ok _ (mE_mem h)) _ (zFind_mem h)
