/-! the tables' words that the code links, by their places -/
def bigW : List Cond := lw_tbl.filter goodWord
theorem bigW_tbl {w : Cond} (h : w ∈ bigW) : w ∈ lw_tbl := (List.mem_filter.mp h).1
theorem bigW_good {w : Cond} (h : w ∈ bigW) : (w.onTables && w.keeps) = true ∨ ∃ ty, w = .arrayClass ty := good_of_word (List.mem_filter.mp h).2
theorem goodIn_big {ws : List Cond} (h : ∀ w ∈ ws, w ∈ bigW) : GoodIn bigW ws := fun w hw => ⟨h w hw, bigW_good (h w hw)⟩
theorem tmS {i : Nat} {w : Cond} (h : (k2_sels lw_privs)[i]? = some w) (g : goodWord w = true) : w ∈ bigW := List.mem_filter.mpr ⟨List.mem_append_left _ (List.mem_of_getElem? h), g⟩
theorem tl1 {i : Nat} {w : Cond} (h : tables_1_1[i]? = some w) : w ∈ lw_tbl := List.mem_append_right _ (List.mem_append_left _ (List.mem_of_getElem? h))
theorem tm1 {i : Nat} {w : Cond} (h : tables_1_1[i]? = some w) (g : goodWord w = true) : w ∈ bigW := List.mem_filter.mpr ⟨tl1 h, g⟩
theorem tl2 {i : Nat} {w : Cond} (h : tables_1_2[i]? = some w) : w ∈ lw_tbl := List.mem_append_right _ (List.mem_append_right _ (List.mem_append_left _ (List.mem_of_getElem? h)))
theorem tm2 {i : Nat} {w : Cond} (h : tables_1_2[i]? = some w) (g : goodWord w = true) : w ∈ bigW := List.mem_filter.mpr ⟨tl2 h, g⟩
theorem tl3 {i : Nat} {w : Cond} (h : tables_1_3[i]? = some w) : w ∈ lw_tbl := List.mem_append_right _ (List.mem_append_right _ (List.mem_append_right _ (List.mem_append_left _ (List.mem_of_getElem? h))))
theorem tm3 {i : Nat} {w : Cond} (h : tables_1_3[i]? = some w) (g : goodWord w = true) : w ∈ bigW := List.mem_filter.mpr ⟨tl3 h, g⟩
theorem tl4 {i : Nat} {w : Cond} (h : tables_1_4[i]? = some w) : w ∈ lw_tbl := List.mem_append_right _ (List.mem_append_right _ (List.mem_append_right _ (List.mem_append_right _ (List.mem_append_left _ (List.mem_of_getElem? h)))))
theorem tm4 {i : Nat} {w : Cond} (h : tables_1_4[i]? = some w) (g : goodWord w = true) : w ∈ bigW := List.mem_filter.mpr ⟨tl4 h, g⟩
theorem tl5 {i : Nat} {w : Cond} (h : tables_1_5[i]? = some w) : w ∈ lw_tbl := List.mem_append_right _ (List.mem_append_right _ (List.mem_append_right _ (List.mem_append_right _ (List.mem_append_right _ (List.mem_append_left _ (List.mem_of_getElem? h))))))
theorem tm5 {i : Nat} {w : Cond} (h : tables_1_5[i]? = some w) (g : goodWord w = true) : w ∈ bigW := List.mem_filter.mpr ⟨tl5 h, g⟩
theorem tl6 {i : Nat} {w : Cond} (h : tables_1_6[i]? = some w) : w ∈ lw_tbl := List.mem_append_right _ (List.mem_append_right _ (List.mem_append_right _ (List.mem_append_right _ (List.mem_append_right _ (List.mem_append_right _ (List.mem_of_getElem? h))))))
theorem tm6 {i : Nat} {w : Cond} (h : tables_1_6[i]? = some w) (g : goodWord w = true) : w ∈ bigW := List.mem_filter.mpr ⟨tl6 h, g⟩
theorem layW {C : String} {T : u_T} {N : Nat} (h : ∀ k, k < N → u_lay C T k ∈ bigW) : ∀ w ∈ u_ws C T N, w ∈ bigW := by
  intro w hw
  obtain ⟨k, hk, rfl⟩ := List.mem_map.mp hw
  exact h k (List.mem_range.mp hk)
theorem zlt_s {P : Nat → Prop} {n : Nat} (h : ∀ k, k < n → P k) (hn : P n) : ∀ k, k < n + 1 → P k := fun k hk => by
  by_cases e : k = n
  · rw [e]; exact hn
  · exact h k (by omega)
theorem zlt_z {P : Nat → Prop} : ∀ k, k < 0 → P k := fun k h => absurd h (Nat.not_lt_zero k)
theorem la_0_0 : u_lay RX0 TX0 0 ∈ bigW := (tm3 (i := 51) rfl rfl)
theorem la_0_1 : u_lay RX0 TX0 1 ∈ bigW := (tm3 (i := 53) rfl rfl)
theorem la_0_2 : u_lay RX0 TX0 2 ∈ bigW := (tm3 (i := 55) rfl rfl)
theorem la_0_3 : u_lay RX0 TX0 3 ∈ bigW := (tm3 (i := 57) rfl rfl)
theorem la_0_4 : u_lay RX0 TX0 4 ∈ bigW := (tm3 (i := 59) rfl rfl)
theorem la_0_5 : u_lay RX0 TX0 5 ∈ bigW := (tm3 (i := 61) rfl rfl)
theorem la_0_6 : u_lay RX0 TX0 6 ∈ bigW := (tm3 (i := 63) rfl rfl)
theorem lay_0 : ∀ w ∈ u_ws RX0 TX0 7, w ∈ bigW := layW (zlt_s (zlt_s (zlt_s (zlt_s (zlt_s (zlt_s (zlt_s zlt_z la_0_0) la_0_1) la_0_2) la_0_3) la_0_4) la_0_5) la_0_6)
theorem la_1_0 : u_lay RX1 TX1 0 ∈ bigW := (tm2 (i := 3) rfl rfl)
theorem la_1_1 : u_lay RX1 TX1 1 ∈ bigW := (tm2 (i := 5) rfl rfl)
theorem la_1_2 : u_lay RX1 TX1 2 ∈ bigW := (tm2 (i := 7) rfl rfl)
theorem la_1_3 : u_lay RX1 TX1 3 ∈ bigW := (tm2 (i := 9) rfl rfl)
theorem la_1_4 : u_lay RX1 TX1 4 ∈ bigW := (tm2 (i := 11) rfl rfl)
theorem lay_1 : ∀ w ∈ u_ws RX1 TX1 5, w ∈ bigW := layW (zlt_s (zlt_s (zlt_s (zlt_s (zlt_s zlt_z la_1_0) la_1_1) la_1_2) la_1_3) la_1_4)
theorem la_2_0 : u_lay RX2 TX2 0 ∈ bigW := (tm1 (i := 96) rfl rfl)
theorem la_2_1 : u_lay RX2 TX2 1 ∈ bigW := (tm1 (i := 98) rfl rfl)
theorem lay_2 : ∀ w ∈ u_ws RX2 TX2 2, w ∈ bigW := layW (zlt_s (zlt_s zlt_z la_2_0) la_2_1)
theorem la_3_0 : u_lay RX3 TX3 0 ∈ bigW := (tm4 (i := 24) rfl rfl)
theorem la_3_1 : u_lay RX3 TX3 1 ∈ bigW := (tm4 (i := 26) rfl rfl)
theorem la_3_2 : u_lay RX3 TX3 2 ∈ bigW := (tm4 (i := 28) rfl rfl)
theorem la_3_3 : u_lay RX3 TX3 3 ∈ bigW := (tm4 (i := 30) rfl rfl)
theorem lay_3 : ∀ w ∈ u_ws RX3 TX3 4, w ∈ bigW := layW (zlt_s (zlt_s (zlt_s (zlt_s zlt_z la_3_0) la_3_1) la_3_2) la_3_3)
theorem la_4_0 : u_lay RX4 TX4 0 ∈ bigW := (tm1 (i := 223) rfl rfl)
theorem lay_4 : ∀ w ∈ u_ws RX4 TX4 1, w ∈ bigW := layW (zlt_s zlt_z la_4_0)
theorem la_5_0 : u_lay RX5 TX5 0 ∈ bigW := (tm2 (i := 69) rfl rfl)
theorem la_5_1 : u_lay RX5 TX5 1 ∈ bigW := (tm2 (i := 71) rfl rfl)
theorem la_5_2 : u_lay RX5 TX5 2 ∈ bigW := (tm2 (i := 73) rfl rfl)
theorem la_5_3 : u_lay RX5 TX5 3 ∈ bigW := (tm2 (i := 75) rfl rfl)
theorem la_5_4 : u_lay RX5 TX5 4 ∈ bigW := (tm2 (i := 77) rfl rfl)
theorem lay_5 : ∀ w ∈ u_ws RX5 TX5 5, w ∈ bigW := layW (zlt_s (zlt_s (zlt_s (zlt_s (zlt_s zlt_z la_5_0) la_5_1) la_5_2) la_5_3) la_5_4)
theorem la_6_0 : u_lay RX6 TX6 0 ∈ bigW := (tm2 (i := 47) rfl rfl)
theorem la_6_1 : u_lay RX6 TX6 1 ∈ bigW := (tm2 (i := 49) rfl rfl)
theorem la_6_2 : u_lay RX6 TX6 2 ∈ bigW := (tm2 (i := 51) rfl rfl)
theorem la_6_3 : u_lay RX6 TX6 3 ∈ bigW := (tm2 (i := 53) rfl rfl)
theorem la_6_4 : u_lay RX6 TX6 4 ∈ bigW := (tm2 (i := 55) rfl rfl)
theorem lay_6 : ∀ w ∈ u_ws RX6 TX6 5, w ∈ bigW := layW (zlt_s (zlt_s (zlt_s (zlt_s (zlt_s zlt_z la_6_0) la_6_1) la_6_2) la_6_3) la_6_4)
theorem la_7_0 : u_lay RX7 TX7 0 ∈ bigW := (tm2 (i := 96) rfl rfl)
theorem la_7_1 : u_lay RX7 TX7 1 ∈ bigW := (tm2 (i := 98) rfl rfl)
theorem la_7_2 : u_lay RX7 TX7 2 ∈ bigW := (tm2 (i := 100) rfl rfl)
theorem lay_7 : ∀ w ∈ u_ws RX7 TX7 3, w ∈ bigW := layW (zlt_s (zlt_s (zlt_s zlt_z la_7_0) la_7_1) la_7_2)
theorem la_8_0 : u_lay RX8 TX8 0 ∈ bigW := (tm1 (i := 131) rfl rfl)
theorem la_8_1 : u_lay RX8 TX8 1 ∈ bigW := (tm1 (i := 133) rfl rfl)
theorem la_8_2 : u_lay RX8 TX8 2 ∈ bigW := (tm1 (i := 135) rfl rfl)
theorem la_8_3 : u_lay RX8 TX8 3 ∈ bigW := (tm1 (i := 137) rfl rfl)
theorem la_8_4 : u_lay RX8 TX8 4 ∈ bigW := (tm1 (i := 139) rfl rfl)
theorem la_8_5 : u_lay RX8 TX8 5 ∈ bigW := (tm1 (i := 141) rfl rfl)
theorem la_8_6 : u_lay RX8 TX8 6 ∈ bigW := (tm1 (i := 143) rfl rfl)
theorem lay_8 : ∀ w ∈ u_ws RX8 TX8 7, w ∈ bigW := layW (zlt_s (zlt_s (zlt_s (zlt_s (zlt_s (zlt_s (zlt_s zlt_z la_8_0) la_8_1) la_8_2) la_8_3) la_8_4) la_8_5) la_8_6)
theorem la_9_0 : u_lay RX9 TX9 0 ∈ bigW := (tm2 (i := 24) rfl rfl)
theorem la_9_1 : u_lay RX9 TX9 1 ∈ bigW := (tm2 (i := 26) rfl rfl)
theorem lay_9 : ∀ w ∈ u_ws RX9 TX9 2, w ∈ bigW := layW (zlt_s (zlt_s zlt_z la_9_0) la_9_1)
theorem la_10_0 : u_lay RX10 TX10 0 ∈ bigW := (tm1 (i := 208) rfl rfl)
theorem lay_10 : ∀ w ∈ u_ws RX10 TX10 1, w ∈ bigW := layW (zlt_s zlt_z la_10_0)
theorem la_11_0 : u_lay RX11 TX11 0 ∈ bigW := (tm2 (i := 111) rfl rfl)
theorem la_11_1 : u_lay RX11 TX11 1 ∈ bigW := (tm2 (i := 113) rfl rfl)
theorem la_11_2 : u_lay RX11 TX11 2 ∈ bigW := (tm2 (i := 115) rfl rfl)
theorem la_11_3 : u_lay RX11 TX11 3 ∈ bigW := (tm2 (i := 117) rfl rfl)
theorem la_11_4 : u_lay RX11 TX11 4 ∈ bigW := (tm2 (i := 119) rfl rfl)
theorem la_11_5 : u_lay RX11 TX11 5 ∈ bigW := (tm2 (i := 121) rfl rfl)
theorem la_11_6 : u_lay RX11 TX11 6 ∈ bigW := (tm2 (i := 123) rfl rfl)
theorem la_11_7 : u_lay RX11 TX11 7 ∈ bigW := (tm2 (i := 125) rfl rfl)
theorem lay_11 : ∀ w ∈ u_ws RX11 TX11 8, w ∈ bigW := layW (zlt_s (zlt_s (zlt_s (zlt_s (zlt_s (zlt_s (zlt_s (zlt_s zlt_z la_11_0) la_11_1) la_11_2) la_11_3) la_11_4) la_11_5) la_11_6) la_11_7)
theorem la_12_0 : u_lay RX12 TX12 0 ∈ bigW := (tm5 (i := 46) rfl rfl)
theorem la_12_1 : u_lay RX12 TX12 1 ∈ bigW := (tm5 (i := 48) rfl rfl)
theorem la_12_2 : u_lay RX12 TX12 2 ∈ bigW := (tm5 (i := 50) rfl rfl)
theorem la_12_3 : u_lay RX12 TX12 3 ∈ bigW := (tm5 (i := 52) rfl rfl)
theorem la_12_4 : u_lay RX12 TX12 4 ∈ bigW := (tm5 (i := 54) rfl rfl)
theorem la_12_5 : u_lay RX12 TX12 5 ∈ bigW := (tm5 (i := 56) rfl rfl)
theorem la_12_6 : u_lay RX12 TX12 6 ∈ bigW := (tm5 (i := 58) rfl rfl)
theorem la_12_7 : u_lay RX12 TX12 7 ∈ bigW := (tm5 (i := 60) rfl rfl)
theorem la_12_8 : u_lay RX12 TX12 8 ∈ bigW := (tm5 (i := 62) rfl rfl)
theorem la_12_9 : u_lay RX12 TX12 9 ∈ bigW := (tm5 (i := 64) rfl rfl)
theorem la_12_10 : u_lay RX12 TX12 10 ∈ bigW := (tm5 (i := 66) rfl rfl)
theorem la_12_11 : u_lay RX12 TX12 11 ∈ bigW := (tm5 (i := 68) rfl rfl)
theorem la_12_12 : u_lay RX12 TX12 12 ∈ bigW := (tm5 (i := 70) rfl rfl)
theorem la_12_13 : u_lay RX12 TX12 13 ∈ bigW := (tm5 (i := 72) rfl rfl)
theorem la_12_14 : u_lay RX12 TX12 14 ∈ bigW := (tm5 (i := 74) rfl rfl)
theorem la_12_15 : u_lay RX12 TX12 15 ∈ bigW := (tm5 (i := 76) rfl rfl)
theorem la_12_16 : u_lay RX12 TX12 16 ∈ bigW := (tm5 (i := 78) rfl rfl)
theorem la_12_17 : u_lay RX12 TX12 17 ∈ bigW := (tm5 (i := 80) rfl rfl)
theorem la_12_18 : u_lay RX12 TX12 18 ∈ bigW := (tm5 (i := 82) rfl rfl)
theorem la_12_19 : u_lay RX12 TX12 19 ∈ bigW := (tm5 (i := 84) rfl rfl)
theorem la_12_20 : u_lay RX12 TX12 20 ∈ bigW := (tm5 (i := 86) rfl rfl)
theorem la_12_21 : u_lay RX12 TX12 21 ∈ bigW := (tm5 (i := 88) rfl rfl)
theorem la_12_22 : u_lay RX12 TX12 22 ∈ bigW := (tm5 (i := 90) rfl rfl)
theorem la_12_23 : u_lay RX12 TX12 23 ∈ bigW := (tm5 (i := 92) rfl rfl)
theorem la_12_24 : u_lay RX12 TX12 24 ∈ bigW := (tm5 (i := 94) rfl rfl)
theorem la_12_25 : u_lay RX12 TX12 25 ∈ bigW := (tm5 (i := 96) rfl rfl)
theorem la_12_26 : u_lay RX12 TX12 26 ∈ bigW := (tm5 (i := 98) rfl rfl)
theorem la_12_27 : u_lay RX12 TX12 27 ∈ bigW := (tm5 (i := 100) rfl rfl)
theorem la_12_28 : u_lay RX12 TX12 28 ∈ bigW := (tm5 (i := 102) rfl rfl)
theorem la_12_29 : u_lay RX12 TX12 29 ∈ bigW := (tm5 (i := 104) rfl rfl)
theorem la_12_30 : u_lay RX12 TX12 30 ∈ bigW := (tm5 (i := 106) rfl rfl)
theorem la_12_31 : u_lay RX12 TX12 31 ∈ bigW := (tm5 (i := 108) rfl rfl)
theorem la_12_32 : u_lay RX12 TX12 32 ∈ bigW := (tm5 (i := 110) rfl rfl)
theorem la_12_33 : u_lay RX12 TX12 33 ∈ bigW := (tm5 (i := 112) rfl rfl)
theorem la_12_34 : u_lay RX12 TX12 34 ∈ bigW := (tm5 (i := 114) rfl rfl)
theorem la_12_35 : u_lay RX12 TX12 35 ∈ bigW := (tm5 (i := 116) rfl rfl)
theorem la_12_36 : u_lay RX12 TX12 36 ∈ bigW := (tm5 (i := 118) rfl rfl)
theorem la_12_37 : u_lay RX12 TX12 37 ∈ bigW := (tm5 (i := 120) rfl rfl)
theorem la_12_38 : u_lay RX12 TX12 38 ∈ bigW := (tm5 (i := 122) rfl rfl)
theorem la_12_39 : u_lay RX12 TX12 39 ∈ bigW := (tm5 (i := 124) rfl rfl)
theorem la_12_40 : u_lay RX12 TX12 40 ∈ bigW := (tm5 (i := 126) rfl rfl)
theorem la_12_41 : u_lay RX12 TX12 41 ∈ bigW := (tm5 (i := 128) rfl rfl)
theorem la_12_42 : u_lay RX12 TX12 42 ∈ bigW := (tm5 (i := 130) rfl rfl)
theorem la_12_43 : u_lay RX12 TX12 43 ∈ bigW := (tm5 (i := 132) rfl rfl)
theorem la_12_44 : u_lay RX12 TX12 44 ∈ bigW := (tm5 (i := 134) rfl rfl)
theorem la_12_45 : u_lay RX12 TX12 45 ∈ bigW := (tm5 (i := 136) rfl rfl)
theorem la_12_46 : u_lay RX12 TX12 46 ∈ bigW := (tm5 (i := 138) rfl rfl)
theorem la_12_47 : u_lay RX12 TX12 47 ∈ bigW := (tm5 (i := 140) rfl rfl)
theorem la_12_48 : u_lay RX12 TX12 48 ∈ bigW := (tm5 (i := 142) rfl rfl)
theorem la_12_49 : u_lay RX12 TX12 49 ∈ bigW := (tm5 (i := 144) rfl rfl)
theorem la_12_50 : u_lay RX12 TX12 50 ∈ bigW := (tm5 (i := 146) rfl rfl)
theorem la_12_51 : u_lay RX12 TX12 51 ∈ bigW := (tm5 (i := 148) rfl rfl)
theorem la_12_52 : u_lay RX12 TX12 52 ∈ bigW := (tm5 (i := 150) rfl rfl)
theorem la_12_53 : u_lay RX12 TX12 53 ∈ bigW := (tm5 (i := 152) rfl rfl)
theorem lay_12 : ∀ w ∈ u_ws RX12 TX12 54, w ∈ bigW := layW (zlt_s (zlt_s (zlt_s (zlt_s (zlt_s (zlt_s (zlt_s (zlt_s (zlt_s (zlt_s (zlt_s (zlt_s (zlt_s (zlt_s (zlt_s (zlt_s (zlt_s (zlt_s (zlt_s (zlt_s (zlt_s (zlt_s (zlt_s (zlt_s (zlt_s (zlt_s (zlt_s (zlt_s (zlt_s (zlt_s (zlt_s (zlt_s (zlt_s (zlt_s (zlt_s (zlt_s (zlt_s (zlt_s (zlt_s (zlt_s (zlt_s (zlt_s (zlt_s (zlt_s (zlt_s (zlt_s (zlt_s (zlt_s (zlt_s (zlt_s (zlt_s (zlt_s (zlt_s (zlt_s zlt_z la_12_0) la_12_1) la_12_2) la_12_3) la_12_4) la_12_5) la_12_6) la_12_7) la_12_8) la_12_9) la_12_10) la_12_11) la_12_12) la_12_13) la_12_14) la_12_15) la_12_16) la_12_17) la_12_18) la_12_19) la_12_20) la_12_21) la_12_22) la_12_23) la_12_24) la_12_25) la_12_26) la_12_27) la_12_28) la_12_29) la_12_30) la_12_31) la_12_32) la_12_33) la_12_34) la_12_35) la_12_36) la_12_37) la_12_38) la_12_39) la_12_40) la_12_41) la_12_42) la_12_43) la_12_44) la_12_45) la_12_46) la_12_47) la_12_48) la_12_49) la_12_50) la_12_51) la_12_52) la_12_53)
theorem la_13_0 : u_lay RJx4a65c TJx4a65c 0 ∈ bigW := (tm1 (i := 61) rfl rfl)
theorem la_13_1 : u_lay RJx4a65c TJx4a65c 1 ∈ bigW := (tm1 (i := 57) rfl rfl)
theorem la_13_2 : u_lay RJx4a65c TJx4a65c 2 ∈ bigW := (tm1 (i := 59) rfl rfl)
theorem lay_13 : ∀ w ∈ u_ws RJx4a65c TJx4a65c 3, w ∈ bigW := layW (zlt_s (zlt_s (zlt_s zlt_z la_13_0) la_13_1) la_13_2)
theorem ins_ok : ∀ k, k < 14 → .instantiable (cNm k) (cRow k).2.2 ∈ bigW := (zlt_s (zlt_s (zlt_s (zlt_s (zlt_s (zlt_s (zlt_s (zlt_s (zlt_s (zlt_s (zlt_s (zlt_s (zlt_s (zlt_s zlt_z (tm3 (i := 17) rfl rfl)) (tm1 (i := 227) rfl rfl)) (tm1 (i := 82) rfl rfl)) (tm4 (i := 4) rfl rfl)) (tm1 (i := 214) rfl rfl)) (tm2 (i := 59) rfl rfl)) (tm2 (i := 30) rfl rfl)) (tm2 (i := 81) rfl rfl)) (tm1 (i := 73) rfl rfl)) (tm2 (i := 15) rfl rfl)) (tm1 (i := 33) rfl rfl)) (tm1 (i := 25) rfl rfl)) (tm4 (i := 225) rfl rfl)) (tm1 (i := 39) rfl rfl))
theorem ini_ok : ∀ k, k < 23 → .initialized (cNm k) ∈ bigW := (zlt_s (zlt_s (zlt_s (zlt_s (zlt_s (zlt_s (zlt_s (zlt_s (zlt_s (zlt_s (zlt_s (zlt_s (zlt_s (zlt_s (zlt_s (zlt_s (zlt_s (zlt_s (zlt_s (zlt_s (zlt_s (zlt_s (zlt_s zlt_z (tm1 (i := 21) rfl rfl)) (tm1 (i := 13) rfl rfl)) (tm1 (i := 7) rfl rfl)) (tm1 (i := 23) rfl rfl)) (tm1 (i := 12) rfl rfl)) (tm1 (i := 16) rfl rfl)) (tm1 (i := 15) rfl rfl)) (tm1 (i := 17) rfl rfl)) (tm1 (i := 6) rfl rfl)) (tm1 (i := 14) rfl rfl)) (tm1 (i := 2) rfl rfl)) (tm1 (i := 1) rfl rfl)) (tm1 (i := 18) rfl rfl)) (tm1 (i := 5) rfl rfl)) (tm1 (i := 4) rfl rfl)) (tm1 (i := 3) rfl rfl)) (tm1 (i := 10) rfl rfl)) (tm1 (i := 19) rfl rfl)) (tm1 (i := 20) rfl rfl)) (tm1 (i := 8) rfl rfl)) (tm1 (i := 22) rfl rfl)) (tm1 (i := 9) rfl rfl)) (tm1 (i := 11) rfl rfl))
theorem cn_ok : ∀ k, k < 23 → k ≠ 21 → cNm k ≠ "java/lang/invoke/MethodHandle" ∧ cNm k ≠ "java/lang/invoke/VarHandle" ∧ plainName (cNm k) = true := by decide +kernel
/-- a method's words: its code, that it is static or not, its class; 'selects' where it is called by its object -/
def zWd (t : zR) : Prop := t.2.2.2.2.1 ≠ 24 → Cond.code t.1 t.2.1 t.2.2.1 t.2.2.2.1 ∈ bigW ∧ t.1.cls = cNm t.2.2.2.2.1 ∧ t.2.2.2.2.1 < 23 ∧ t.2.2.2.2.1 ≠ 21
theorem wd_0 : zWd zr_0 := fun _ => ⟨(tm3 (i := 20) rfl rfl), rfl, by decide, by decide⟩
theorem wi_0 : Cond.instanceMethod yX0_init ∈ bigW := (tm3 (i := 19) rfl rfl)
theorem wd_1 : zWd zr_1 := fun _ => ⟨(tm3 (i := 83) rfl rfl), rfl, by decide, by decide⟩
theorem wi_1 : Cond.instanceMethod yX0_hasInput ∈ bigW := (tm3 (i := 81) rfl rfl)
theorem ws_1 : Cond.selects yX0_hasInput.cls yX0_hasInput yX0_hasInput ∈ bigW := (tm3 (i := 82) rfl rfl)
theorem wd_2 : zWd zr_2 := fun _ => ⟨(tm3 (i := 130) rfl rfl), rfl, by decide, by decide⟩
theorem wi_2 : Cond.instanceMethod yX0_addStep ∈ bigW := (tm3 (i := 128) rfl rfl)
theorem ws_2 : Cond.selects yX0_addStep.cls yX0_addStep yX0_addStep ∈ bigW := (tm3 (i := 129) rfl rfl)
theorem wd_3 : zWd zr_3 := fun _ => ⟨(tm3 (i := 138) rfl rfl), rfl, by decide, by decide⟩
theorem wi_3 : Cond.instanceMethod yX0_strip ∈ bigW := (tm3 (i := 136) rfl rfl)
theorem ws_3 : Cond.selects yX0_strip.cls yX0_strip yX0_strip ∈ bigW := (tm3 (i := 137) rfl rfl)
theorem wd_4 : zWd zr_4 := fun _ => ⟨(tm4 (i := 140) rfl rfl), rfl, by decide, by decide⟩
theorem wi_4 : Cond.instanceMethod yX0_takeOutcome ∈ bigW := (tm4 (i := 138) rfl rfl)
theorem ws_4 : Cond.selects yX0_takeOutcome.cls yX0_takeOutcome yX0_takeOutcome ∈ bigW := (tm4 (i := 139) rfl rfl)
theorem wd_5 : zWd zr_5 := fun _ => ⟨(tm4 (i := 181) rfl rfl), rfl, by decide, by decide⟩
theorem wi_5 : Cond.instanceMethod yX0_hasOutcome ∈ bigW := (tm4 (i := 179) rfl rfl)
theorem ws_5 : Cond.selects yX0_hasOutcome.cls yX0_hasOutcome yX0_hasOutcome ∈ bigW := (tm4 (i := 180) rfl rfl)
theorem wd_6 : zWd zr_6 := fun _ => ⟨(tm1 (i := 230) rfl rfl), rfl, by decide, by decide⟩
theorem wi_6 : Cond.instanceMethod yX1_init ∈ bigW := (tm1 (i := 229) rfl rfl)
theorem wd_7 : zWd zr_7 := fun _ => ⟨(tm4 (i := 218) rfl rfl), rfl, by decide, by decide⟩
theorem wi_7 : Cond.instanceMethod yX1_reset ∈ bigW := (tm4 (i := 216) rfl rfl)
theorem ws_7 : Cond.selects yX1_reset.cls yX1_reset yX1_reset ∈ bigW := (tm4 (i := 217) rfl rfl)
theorem wd_8 : zWd zr_8 := fun _ => ⟨(tm3 (i := 225) rfl rfl), rfl, by decide, by decide⟩
theorem wi_8 : Cond.instanceMethod yX1_find ∈ bigW := (tm3 (i := 223) rfl rfl)
theorem ws_8 : Cond.selects yX1_find.cls yX1_find yX1_find ∈ bigW := (tm3 (i := 224) rfl rfl)
theorem wd_9 : zWd zr_9 := fun _ => ⟨(tm4 (i := 53) rfl rfl), rfl, by decide, by decide⟩
theorem wi_9 : Cond.instanceMethod yX1_use ∈ bigW := (tm4 (i := 51) rfl rfl)
theorem ws_9 : Cond.selects yX1_use.cls yX1_use yX1_use ∈ bigW := (tm4 (i := 52) rfl rfl)
theorem wd_10 : zWd zr_10 := fun _ => ⟨(tm3 (i := 239) rfl rfl), rfl, by decide, by decide⟩
theorem wi_10 : Cond.instanceMethod yX1_unused ∈ bigW := (tm3 (i := 237) rfl rfl)
theorem ws_10 : Cond.selects yX1_unused.cls yX1_unused yX1_unused ∈ bigW := (tm3 (i := 238) rfl rfl)
theorem wd_11 : zWd zr_11 := fun _ => ⟨(tm4 (i := 150) rfl rfl), rfl, by decide, by decide⟩
theorem wi_11 : Cond.instanceMethod yX1_add ∈ bigW := (tm4 (i := 148) rfl rfl)
theorem ws_11 : Cond.selects yX1_add.cls yX1_add yX1_add ∈ bigW := (tm4 (i := 149) rfl rfl)
theorem wd_12 : zWd zr_12 := fun _ => ⟨(tm4 (i := 159) rfl rfl), rfl, by decide, by decide⟩
theorem wi_12 : Cond.instanceMethod yX1_evictExcess ∈ bigW := (tm4 (i := 157) rfl rfl)
theorem ws_12 : Cond.selects yX1_evictExcess.cls yX1_evictExcess yX1_evictExcess ∈ bigW := (tm4 (i := 158) rfl rfl)
theorem wd_13 : zWd zr_13 := fun _ => ⟨(tm4 (i := 203) rfl rfl), rfl, by decide, by decide⟩
theorem wi_13 : Cond.instanceMethod yX1_dropAll ∈ bigW := (tm4 (i := 201) rfl rfl)
theorem ws_13 : Cond.selects yX1_dropAll.cls yX1_dropAll yX1_dropAll ∈ bigW := (tm4 (i := 202) rfl rfl)
theorem wd_14 : zWd zr_14 := fun _ => ⟨(tm1 (i := 85) rfl rfl), rfl, by decide, by decide⟩
theorem wi_14 : Cond.instanceMethod yX2_init ∈ bigW := (tm1 (i := 84) rfl rfl)
theorem wd_15 : zWd zr_15 := fun _ => ⟨(tm3 (i := 204) rfl rfl), rfl, by decide, by decide⟩
theorem wi_15 : Cond.instanceMethod yX2_isAbsent ∈ bigW := (tm3 (i := 202) rfl rfl)
theorem ws_15 : Cond.selects yX2_isAbsent.cls yX2_isAbsent yX2_isAbsent ∈ bigW := (tm3 (i := 203) rfl rfl)
theorem wd_16 : zWd zr_16 := fun _ => ⟨(tm2 (i := 198) rfl rfl), rfl, by decide, by decide⟩
theorem wi_16 : Cond.instanceMethod yX2_append ∈ bigW := (tm2 (i := 196) rfl rfl)
theorem ws_16 : Cond.selects yX2_append.cls yX2_append yX2_append ∈ bigW := (tm2 (i := 197) rfl rfl)
theorem wd_17 : zWd zr_17 := fun _ => ⟨(tm4 (i := 83) rfl rfl), rfl, by decide, by decide⟩
theorem wi_17 : Cond.instanceMethod yX2_appendAll ∈ bigW := (tm4 (i := 81) rfl rfl)
theorem ws_17 : Cond.selects yX2_appendAll.cls yX2_appendAll yX2_appendAll ∈ bigW := (tm4 (i := 82) rfl rfl)
theorem wd_18 : zWd zr_18 := fun _ => ⟨(tm2 (i := 217) rfl rfl), rfl, by decide, by decide⟩
theorem wi_18 : Cond.instanceMethod yX2_become ∈ bigW := (tm2 (i := 215) rfl rfl)
theorem ws_18 : Cond.selects yX2_become.cls yX2_become yX2_become ∈ bigW := (tm2 (i := 216) rfl rfl)
theorem wd_19 : zWd zr_19 := fun _ => ⟨(tm2 (i := 233) rfl rfl), rfl, by decide, by decide⟩
theorem wi_19 : Cond.instanceMethod yX2_sameAs ∈ bigW := (tm2 (i := 231) rfl rfl)
theorem ws_19 : Cond.selects yX2_sameAs.cls yX2_sameAs yX2_sameAs ∈ bigW := (tm2 (i := 232) rfl rfl)
theorem wd_20 : zWd zr_20 := fun _ => ⟨(tm4 (i := 106) rfl rfl), rfl, by decide, by decide⟩
theorem wi_20 : Cond.instanceMethod yX2_turn ∈ bigW := (tm4 (i := 104) rfl rfl)
theorem ws_20 : Cond.selects yX2_turn.cls yX2_turn yX2_turn ∈ bigW := (tm4 (i := 105) rfl rfl)
theorem wd_21 : zWd zr_21 := fun _ => ⟨(tm4 (i := 110) rfl rfl), rfl, by decide, by decide⟩
theorem wi_21 : Cond.instanceMethod yX2_sort ∈ bigW := (tm4 (i := 108) rfl rfl)
theorem ws_21 : Cond.selects yX2_sort.cls yX2_sort yX2_sort ∈ bigW := (tm4 (i := 109) rfl rfl)
theorem wd_22 : zWd zr_22 := fun _ => ⟨(tm4 (i := 119) rfl rfl), rfl, by decide, by decide⟩
theorem wi_22 : Cond.instanceMethod yX2_sum ∈ bigW := (tm4 (i := 117) rfl rfl)
theorem ws_22 : Cond.selects yX2_sum.cls yX2_sum yX2_sum ∈ bigW := (tm4 (i := 118) rfl rfl)
theorem wd_23 : zWd zr_23 := fun _ => ⟨(tm4 (i := 114) rfl rfl), rfl, by decide, by decide⟩
theorem wi_23 : Cond.instanceMethod yX2_becomeFigures ∈ bigW := (tm4 (i := 112) rfl rfl)
theorem ws_23 : Cond.selects yX2_becomeFigures.cls yX2_becomeFigures yX2_becomeFigures ∈ bigW := (tm4 (i := 113) rfl rfl)
theorem wd_24 : zWd zr_24 := fun _ => ⟨(tm4 (i := 123) rfl rfl), rfl, by decide, by decide⟩
theorem wi_24 : Cond.instanceMethod yX2_cut ∈ bigW := (tm4 (i := 121) rfl rfl)
theorem ws_24 : Cond.selects yX2_cut.cls yX2_cut yX2_cut ∈ bigW := (tm4 (i := 122) rfl rfl)
theorem wd_25 : zWd zr_25 := fun _ => ⟨(tm4 (i := 127) rfl rfl), rfl, by decide, by decide⟩
theorem wi_25 : Cond.instanceMethod yX2_keepFirstOnes ∈ bigW := (tm4 (i := 125) rfl rfl)
theorem ws_25 : Cond.selects yX2_keepFirstOnes.cls yX2_keepFirstOnes yX2_keepFirstOnes ∈ bigW := (tm4 (i := 126) rfl rfl)
theorem wd_26 : zWd zr_26 := fun _ => ⟨(tm4 (i := 131) rfl rfl), rfl, by decide, by decide⟩
theorem wi_26 : Cond.instanceMethod yX2_isAmongFirst ∈ bigW := (tm4 (i := 130) rfl rfl)
theorem ws_26 : Cond.selects yX2_isAmongFirst.cls yX2_isAmongFirst yX2_isAmongFirst ∈ bigW := tmS (i := 19) rfl rfl
theorem wd_27 : zWd zr_27 := fun _ => ⟨(tm4 (i := 135) rfl rfl), rfl, by decide, by decide⟩
theorem wi_27 : Cond.instanceMethod yX2_mix ∈ bigW := (tm4 (i := 133) rfl rfl)
theorem ws_27 : Cond.selects yX2_mix.cls yX2_mix yX2_mix ∈ bigW := (tm4 (i := 134) rfl rfl)
theorem wd_28 : zWd zr_28 := fun _ => ⟨(tm4 (i := 7) rfl rfl), rfl, by decide, by decide⟩
theorem wi_28 : Cond.instanceMethod yX3_init ∈ bigW := (tm4 (i := 6) rfl rfl)
theorem wd_29 : zWd zr_29 := fun _ => ⟨(tm4 (i := 44) rfl rfl), rfl, by decide, by decide⟩
theorem wi_29 : Cond.instanceMethod yX3_begin ∈ bigW := (tm4 (i := 42) rfl rfl)
theorem ws_29 : Cond.selects yX3_begin.cls yX3_begin yX3_begin ∈ bigW := (tm4 (i := 43) rfl rfl)
theorem wd_30 : zWd zr_30 := fun _ => ⟨(tm1 (i := 217) rfl rfl), rfl, by decide, by decide⟩
theorem wi_30 : Cond.instanceMethod yX4_init ∈ bigW := (tm1 (i := 216) rfl rfl)
theorem wd_31 : zWd zr_31 := fun _ => ⟨(tm3 (i := 10) rfl rfl), rfl, by decide, by decide⟩
theorem wi_31 : Cond.instanceMethod yX4_size ∈ bigW := (tm3 (i := 8) rfl rfl)
theorem ws_31 : Cond.selects yX4_size.cls yX4_size yX4_size ∈ bigW := (tm3 (i := 9) rfl rfl)
theorem wd_32 : zWd zr_32 := fun _ => ⟨(tm3 (i := 74) rfl rfl), rfl, by decide, by decide⟩
theorem wi_32 : Cond.instanceMethod yX4_has ∈ bigW := (tm3 (i := 72) rfl rfl)
theorem ws_32 : Cond.selects yX4_has.cls yX4_has yX4_has ∈ bigW := (tm3 (i := 73) rfl rfl)
theorem wd_33 : zWd zr_33 := fun _ => ⟨(tm3 (i := 78) rfl rfl), rfl, by decide, by decide⟩
theorem wi_33 : Cond.instanceMethod yX4_at ∈ bigW := (tm3 (i := 76) rfl rfl)
theorem ws_33 : Cond.selects yX4_at.cls yX4_at yX4_at ∈ bigW := (tm3 (i := 77) rfl rfl)
theorem wd_34 : zWd zr_34 := fun _ => ⟨(tm3 (i := 15) rfl rfl), rfl, by decide, by decide⟩
theorem wi_34 : Cond.instanceMethod yX4_add ∈ bigW := (tm3 (i := 13) rfl rfl)
theorem ws_34 : Cond.selects yX4_add.cls yX4_add yX4_add ∈ bigW := (tm3 (i := 14) rfl rfl)
theorem wd_35 : zWd zr_35 := fun _ => ⟨(tm3 (i := 163) rfl rfl), rfl, by decide, by decide⟩
theorem wi_35 : Cond.instanceMethod yX4_all ∈ bigW := (tm3 (i := 161) rfl rfl)
theorem ws_35 : Cond.selects yX4_all.cls yX4_all yX4_all ∈ bigW := (tm3 (i := 162) rfl rfl)
theorem wd_36 : zWd zr_36 := fun _ => ⟨(tm3 (i := 108) rfl rfl), rfl, by decide, by decide⟩
theorem wi_36 : Cond.instanceMethod yX4_renewUses ∈ bigW := (tm3 (i := 106) rfl rfl)
theorem ws_36 : Cond.selects yX4_renewUses.cls yX4_renewUses yX4_renewUses ∈ bigW := (tm3 (i := 107) rfl rfl)
theorem wd_37 : zWd zr_37 := fun _ => ⟨(tm3 (i := 101) rfl rfl), rfl, by decide, by decide⟩
theorem wi_37 : Cond.instanceMethod yX4_withAllUsed ∈ bigW := (tm3 (i := 99) rfl rfl)
theorem ws_37 : Cond.selects yX4_withAllUsed.cls yX4_withAllUsed yX4_withAllUsed ∈ bigW := (tm3 (i := 100) rfl rfl)
theorem wd_38 : zWd zr_38 := fun _ => ⟨(tm3 (i := 90) rfl rfl), rfl, by decide, by decide⟩
theorem wi_38 : Cond.instanceMethod yX4_wouldCircleByInput ∈ bigW := (tm3 (i := 88) rfl rfl)
theorem ws_38 : Cond.selects yX4_wouldCircleByInput.cls yX4_wouldCircleByInput yX4_wouldCircleByInput ∈ bigW := (tm3 (i := 89) rfl rfl)
theorem wd_39 : zWd zr_39 := fun _ => ⟨(tm3 (i := 117) rfl rfl), rfl, by decide, by decide⟩
theorem wi_39 : Cond.instanceMethod yX4_wouldCircleByOutput ∈ bigW := (tm3 (i := 115) rfl rfl)
theorem ws_39 : Cond.selects yX4_wouldCircleByOutput.cls yX4_wouldCircleByOutput yX4_wouldCircleByOutput ∈ bigW := (tm3 (i := 116) rfl rfl)
theorem wd_40 : zWd zr_40 := fun _ => ⟨(tm3 (i := 173) rfl rfl), rfl, by decide, by decide⟩
theorem wi_40 : Cond.instanceMethod yX4_leastReady ∈ bigW := (tm3 (i := 171) rfl rfl)
theorem ws_40 : Cond.selects yX4_leastReady.cls yX4_leastReady yX4_leastReady ∈ bigW := (tm3 (i := 172) rfl rfl)
theorem wd_41 : zWd zr_41 := fun _ => ⟨(tm2 (i := 62) rfl rfl), rfl, by decide, by decide⟩
theorem wi_41 : Cond.instanceMethod yX5_init ∈ bigW := (tm2 (i := 61) rfl rfl)
theorem wd_42 : zWd zr_42 := fun _ => ⟨(tm3 (i := 181) rfl rfl), rfl, by decide, by decide⟩
theorem wi_42 : Cond.instanceMethod yX5_describe ∈ bigW := (tm3 (i := 179) rfl rfl)
theorem ws_42 : Cond.selects yX5_describe.cls yX5_describe yX5_describe ∈ bigW := (tm3 (i := 180) rfl rfl)
theorem wd_43 : zWd zr_43 := fun _ => ⟨(tm3 (i := 192) rfl rfl), rfl, by decide, by decide⟩
theorem wi_43 : Cond.instanceMethod yX5_putPart ∈ bigW := (tm3 (i := 191) rfl rfl)
theorem ws_43 : Cond.selects yX5_putPart.cls yX5_putPart yX5_putPart ∈ bigW := tmS (i := 8) rfl rfl
theorem wd_44 : zWd zr_44 := fun _ => ⟨(tm3 (i := 196) rfl rfl), rfl, by decide, by decide⟩
theorem wi_44 : Cond.instanceMethod yX5_putListed ∈ bigW := (tm3 (i := 195) rfl rfl)
theorem ws_44 : Cond.selects yX5_putListed.cls yX5_putListed yX5_putListed ∈ bigW := tmS (i := 9) rfl rfl
theorem wd_45 : zWd zr_45 := fun _ => ⟨(tm3 (i := 209) rfl rfl), rfl, by decide, by decide⟩
theorem wi_45 : Cond.instanceMethod yX5_putContent ∈ bigW := (tm3 (i := 208) rfl rfl)
theorem ws_45 : Cond.selects yX5_putContent.cls yX5_putContent yX5_putContent ∈ bigW := tmS (i := 10) rfl rfl
theorem wd_46 : zWd zr_46 := fun _ => ⟨(tm3 (i := 186) rfl rfl), rfl, by decide, by decide⟩
theorem wi_46 : Cond.instanceMethod yX5_put ∈ bigW := (tm3 (i := 185) rfl rfl)
theorem ws_46 : Cond.selects yX5_put.cls yX5_put yX5_put ∈ bigW := tmS (i := 7) rfl rfl
theorem wd_47 : zWd zr_47 := fun _ => ⟨(tm4 (i := 48) rfl rfl), rfl, by decide, by decide⟩
theorem wi_47 : Cond.instanceMethod yX5_become ∈ bigW := (tm4 (i := 46) rfl rfl)
theorem ws_47 : Cond.selects yX5_become.cls yX5_become yX5_become ∈ bigW := (tm4 (i := 47) rfl rfl)
theorem wd_48 : zWd zr_48 := fun _ => ⟨(tm3 (i := 229) rfl rfl), rfl, by decide, by decide⟩
theorem wi_48 : Cond.instanceMethod yX5_sign ∈ bigW := (tm3 (i := 227) rfl rfl)
theorem ws_48 : Cond.selects yX5_sign.cls yX5_sign yX5_sign ∈ bigW := (tm3 (i := 228) rfl rfl)
theorem wd_49 : zWd zr_49 := fun _ => ⟨(tm3 (i := 217) rfl rfl), rfl, by decide, by decide⟩
theorem wi_49 : Cond.instanceMethod yX5_sameAs ∈ bigW := (tm3 (i := 215) rfl rfl)
theorem ws_49 : Cond.selects yX5_sameAs.cls yX5_sameAs yX5_sameAs ∈ bigW := (tm3 (i := 216) rfl rfl)
theorem wd_50 : zWd zr_50 := fun _ => ⟨(tm3 (i := 221) rfl rfl), rfl, by decide, by decide⟩
theorem wi_50 : Cond.instanceMethod yX5_firstOther ∈ bigW := (tm3 (i := 220) rfl rfl)
theorem ws_50 : Cond.selects yX5_firstOther.cls yX5_firstOther yX5_firstOther ∈ bigW := tmS (i := 11) rfl rfl
theorem wd_51 : zWd zr_51 := fun _ => ⟨(tm3 (i := 213) rfl rfl), rfl, by decide, by decide⟩
theorem wi_51 : Cond.instanceMethod yX5_changeSince ∈ bigW := (tm3 (i := 211) rfl rfl)
theorem ws_51 : Cond.selects yX5_changeSince.cls yX5_changeSince yX5_changeSince ∈ bigW := (tm3 (i := 212) rfl rfl)
theorem wd_52 : zWd zr_52 := fun _ => ⟨(tm2 (i := 33) rfl rfl), rfl, by decide, by decide⟩
theorem wi_52 : Cond.instanceMethod yX6_init ∈ bigW := (tm2 (i := 32) rfl rfl)
theorem wd_53 : zWd zr_53 := fun _ => ⟨(tm4 (i := 223) rfl rfl), rfl, by decide, by decide⟩
theorem wi_53 : Cond.instanceMethod yX6_reset ∈ bigW := (tm4 (i := 221) rfl rfl)
theorem ws_53 : Cond.selects yX6_reset.cls yX6_reset yX6_reset ∈ bigW := (tm4 (i := 222) rfl rfl)
theorem wd_54 : zWd zr_54 := fun _ => ⟨(tm3 (i := 169) rfl rfl), rfl, by decide, by decide⟩
theorem wi_54 : Cond.instanceMethod yX6_begin ∈ bigW := (tm3 (i := 167) rfl rfl)
theorem ws_54 : Cond.selects yX6_begin.cls yX6_begin yX6_begin ∈ bigW := (tm3 (i := 168) rfl rfl)
theorem wd_55 : zWd zr_55 := fun _ => ⟨(tm4 (i := 146) rfl rfl), rfl, by decide, by decide⟩
theorem wi_55 : Cond.instanceMethod yX6_add ∈ bigW := (tm4 (i := 144) rfl rfl)
theorem ws_55 : Cond.selects yX6_add.cls yX6_add yX6_add ∈ bigW := (tm4 (i := 145) rfl rfl)
theorem wd_56 : zWd zr_56 := fun _ => ⟨(tm2 (i := 84) rfl rfl), rfl, by decide, by decide⟩
theorem wi_56 : Cond.instanceMethod yX7_init ∈ bigW := (tm2 (i := 83) rfl rfl)
theorem wd_57 : zWd zr_57 := fun _ => ⟨(tm4 (i := 63) rfl rfl), rfl, by decide, by decide⟩
theorem wi_57 : Cond.instanceMethod yX7_begin ∈ bigW := (tm4 (i := 61) rfl rfl)
theorem ws_57 : Cond.selects yX7_begin.cls yX7_begin yX7_begin ∈ bigW := (tm4 (i := 62) rfl rfl)
theorem wd_58 : zWd zr_58 := fun _ => ⟨(tm4 (i := 68) rfl rfl), rfl, by decide, by decide⟩
theorem wi_58 : Cond.instanceMethod yX7_fail ∈ bigW := (tm4 (i := 66) rfl rfl)
theorem ws_58 : Cond.selects yX7_fail.cls yX7_fail yX7_fail ∈ bigW := (tm4 (i := 67) rfl rfl)
theorem wd_59 : zWd zr_59 := fun _ => ⟨(tm4 (i := 154) rfl rfl), rfl, by decide, by decide⟩
theorem wi_59 : Cond.instanceMethod yX7_size ∈ bigW := (tm4 (i := 152) rfl rfl)
theorem ws_59 : Cond.selects yX7_size.cls yX7_size yX7_size ∈ bigW := (tm4 (i := 153) rfl rfl)
theorem wd_60 : zWd zr_60 := fun _ => ⟨(tm1 (i := 76) rfl rfl), rfl, by decide, by decide⟩
theorem wi_60 : Cond.instanceMethod yX8_init ∈ bigW := (tm1 (i := 75) rfl rfl)
theorem wd_61 : zWd zr_61 := fun _ => ⟨(tm2 (i := 174) rfl rfl), rfl, by decide, by decide⟩
theorem wi_61 : Cond.instanceMethod yX8_addFile ∈ bigW := (tm2 (i := 172) rfl rfl)
theorem ws_61 : Cond.selects yX8_addFile.cls yX8_addFile yX8_addFile ∈ bigW := (tm2 (i := 173) rfl rfl)
theorem wd_62 : zWd zr_62 := fun _ => ⟨(tm3 (i := 122) rfl rfl), rfl, by decide, by decide⟩
theorem wi_62 : Cond.instanceMethod yX8_madeBy ∈ bigW := (tm3 (i := 120) rfl rfl)
theorem ws_62 : Cond.selects yX8_madeBy.cls yX8_madeBy yX8_madeBy ∈ bigW := (tm3 (i := 121) rfl rfl)
theorem wd_63 : zWd zr_63 := fun _ => ⟨(tm3 (i := 94) rfl rfl), rfl, by decide, by decide⟩
theorem wi_63 : Cond.instanceMethod yX8_makers ∈ bigW := (tm3 (i := 92) rfl rfl)
theorem ws_63 : Cond.selects yX8_makers.cls yX8_makers yX8_makers ∈ bigW := (tm3 (i := 93) rfl rfl)
theorem wd_64 : zWd zr_64 := fun _ => ⟨(tm3 (i := 200) rfl rfl), rfl, by decide, by decide⟩
theorem wi_64 : Cond.instanceMethod yX8_listed ∈ bigW := (tm3 (i := 198) rfl rfl)
theorem ws_64 : Cond.selects yX8_listed.cls yX8_listed yX8_listed ∈ bigW := (tm3 (i := 199) rfl rfl)
theorem wd_65 : zWd zr_65 := fun _ => ⟨(tm2 (i := 18) rfl rfl), rfl, by decide, by decide⟩
theorem wi_65 : Cond.instanceMethod yX9_init ∈ bigW := (tm2 (i := 17) rfl rfl)
theorem wd_66 : zWd zr_66 := fun _ => ⟨(tm4 (i := 58) rfl rfl), rfl, by decide, by decide⟩
theorem wi_66 : Cond.instanceMethod yX9_run ∈ bigW := (tm4 (i := 56) rfl rfl)
theorem ws_66 : Cond.selects yX9_run.cls yX9_run yX9_run ∈ bigW := (tm4 (i := 57) rfl rfl)
theorem wd_67 : zWd zr_67 := fun _ => ⟨(tm4 (i := 72) rfl rfl), rfl, by decide, by decide⟩
theorem wi_67 : Cond.instanceMethod yX9_perform ∈ bigW := (tm4 (i := 71) rfl rfl)
theorem ws_67 : Cond.selects yX9_perform.cls yX9_perform yX9_perform ∈ bigW := tmS (i := 13) rfl rfl
theorem wd_68 : zWd zr_68 := fun _ => ⟨(tm4 (i := 102) rfl rfl), rfl, by decide, by decide⟩
theorem wi_68 : Cond.instanceMethod yX9_reshape ∈ bigW := (tm4 (i := 101) rfl rfl)
theorem ws_68 : Cond.selects yX9_reshape.cls yX9_reshape yX9_reshape ∈ bigW := tmS (i := 18) rfl rfl
theorem wd_69 : zWd zr_69 := fun _ => ⟨(tm4 (i := 76) rfl rfl), rfl, by decide, by decide⟩
theorem wi_69 : Cond.instanceMethod yX9_readInput ∈ bigW := (tm4 (i := 75) rfl rfl)
theorem ws_69 : Cond.selects yX9_readInput.cls yX9_readInput yX9_readInput ∈ bigW := tmS (i := 14) rfl rfl
theorem wd_70 : zWd zr_70 := fun _ => ⟨(tm4 (i := 89) rfl rfl), rfl, by decide, by decide⟩
theorem wi_70 : Cond.instanceMethod yX9_listInput ∈ bigW := (tm4 (i := 88) rfl rfl)
theorem ws_70 : Cond.selects yX9_listInput.cls yX9_listInput yX9_listInput ∈ bigW := tmS (i := 15) rfl rfl
theorem wd_71 : zWd zr_71 := fun _ => ⟨(tm4 (i := 93) rfl rfl), rfl, by decide, by decide⟩
theorem wi_71 : Cond.instanceMethod yX9_writeOutput ∈ bigW := (tm4 (i := 92) rfl rfl)
theorem ws_71 : Cond.selects yX9_writeOutput.cls yX9_writeOutput yX9_writeOutput ∈ bigW := tmS (i := 16) rfl rfl
theorem wd_72 : zWd zr_72 := fun _ => ⟨(tm4 (i := 98) rfl rfl), rfl, by decide, by decide⟩
theorem wi_72 : Cond.instanceMethod yX9_skipFor ∈ bigW := (tm4 (i := 97) rfl rfl)
theorem ws_72 : Cond.selects yX9_skipFor.cls yX9_skipFor yX9_skipFor ∈ bigW := tmS (i := 17) rfl rfl
theorem wd_73 : zWd zr_73 := fun _ => ⟨(tm1 (i := 36) rfl rfl), rfl, by decide, by decide⟩
theorem wi_73 : Cond.instanceMethod yX10_init ∈ bigW := (tm1 (i := 35) rfl rfl)
theorem wd_74 : zWd zr_74 := fun _ => ⟨(tm1 (i := 67) rfl rfl), rfl, by decide, by decide⟩
theorem wi_74 : Cond.instanceMethod yX10_reset ∈ bigW := (tm1 (i := 65) rfl rfl)
theorem ws_74 : Cond.selects yX10_reset.cls yX10_reset yX10_reset ∈ bigW := (tm1 (i := 66) rfl rfl)
theorem wd_75 : zWd zr_75 := fun _ => ⟨(tm2 (i := 165) rfl rfl), rfl, by decide, by decide⟩
theorem wi_75 : Cond.instanceMethod yX10_size ∈ bigW := (tm2 (i := 163) rfl rfl)
theorem ws_75 : Cond.selects yX10_size.cls yX10_size yX10_size ∈ bigW := (tm2 (i := 164) rfl rfl)
theorem wd_76 : zWd zr_76 := fun _ => ⟨(tm2 (i := 135) rfl rfl), rfl, by decide, by decide⟩
theorem wi_76 : Cond.instanceMethod yX10_has ∈ bigW := (tm2 (i := 133) rfl rfl)
theorem ws_76 : Cond.selects yX10_has.cls yX10_has yX10_has ∈ bigW := (tm2 (i := 134) rfl rfl)
theorem wd_77 : zWd zr_77 := fun _ => ⟨(tm2 (i := 143) rfl rfl), rfl, by decide, by decide⟩
theorem wi_77 : Cond.instanceMethod yX10_at ∈ bigW := (tm2 (i := 141) rfl rfl)
theorem ws_77 : Cond.selects yX10_at.cls yX10_at yX10_at ∈ bigW := (tm2 (i := 142) rfl rfl)
theorem wd_78 : zWd zr_78 := fun _ => ⟨(tm2 (i := 161) rfl rfl), rfl, by decide, by decide⟩
theorem wi_78 : Cond.instanceMethod yX10_isTaken ∈ bigW := (tm2 (i := 159) rfl rfl)
theorem ws_78 : Cond.selects yX10_isTaken.cls yX10_isTaken yX10_isTaken ∈ bigW := (tm2 (i := 160) rfl rfl)
theorem wd_79 : zWd zr_79 := fun _ => ⟨(tm2 (i := 169) rfl rfl), rfl, by decide, by decide⟩
theorem wi_79 : Cond.instanceMethod yX10_add ∈ bigW := (tm2 (i := 167) rfl rfl)
theorem ws_79 : Cond.selects yX10_add.cls yX10_add yX10_add ∈ bigW := (tm2 (i := 168) rfl rfl)
theorem wd_80 : zWd zr_80 := fun _ => ⟨(tm2 (i := 229) rfl rfl), rfl, by decide, by decide⟩
theorem wi_80 : Cond.instanceMethod yX10_copySources ∈ bigW := (tm2 (i := 227) rfl rfl)
theorem ws_80 : Cond.selects yX10_copySources.cls yX10_copySources yX10_copySources ∈ bigW := (tm2 (i := 228) rfl rfl)
theorem wd_81 : zWd zr_81 := fun _ => ⟨(tm1 (i := 28) rfl rfl), rfl, by decide, by decide⟩
theorem wi_81 : Cond.instanceMethod yX11_init ∈ bigW := (tm1 (i := 27) rfl rfl)
theorem wd_82 : zWd zr_82 := fun _ => ⟨(tm2 (i := 131) rfl rfl), rfl, by decide, by decide⟩
theorem wi_82 : Cond.instanceMethod yX11_path ∈ bigW := (tm2 (i := 129) rfl rfl)
theorem ws_82 : Cond.selects yX11_path.cls yX11_path yX11_path ∈ bigW := (tm2 (i := 130) rfl rfl)
theorem wd_83 : zWd zr_83 := fun _ => ⟨(tm2 (i := 190) rfl rfl), rfl, by decide, by decide⟩
theorem wi_83 : Cond.instanceMethod yX11_of ∈ bigW := (tm2 (i := 188) rfl rfl)
theorem ws_83 : Cond.selects yX11_of.cls yX11_of yX11_of ∈ bigW := (tm2 (i := 189) rfl rfl)
theorem wd_84 : zWd zr_84 := fun _ => ⟨(tm2 (i := 194) rfl rfl), rfl, by decide, by decide⟩
theorem wi_84 : Cond.instanceMethod yX11_feed ∈ bigW := (tm2 (i := 192) rfl rfl)
theorem ws_84 : Cond.selects yX11_feed.cls yX11_feed yX11_feed ∈ bigW := (tm2 (i := 193) rfl rfl)
theorem wd_85 : zWd zr_85 := fun _ => ⟨(tm2 (i := 202) rfl rfl), rfl, by decide, by decide⟩
theorem wi_85 : Cond.instanceMethod yX11_write ∈ bigW := (tm2 (i := 200) rfl rfl)
theorem ws_85 : Cond.selects yX11_write.cls yX11_write yX11_write ∈ bigW := (tm2 (i := 201) rfl rfl)
theorem wd_86 : zWd zr_86 := fun _ => ⟨(tm2 (i := 221) rfl rfl), rfl, by decide, by decide⟩
theorem wi_86 : Cond.instanceMethod yX11_remove ∈ bigW := (tm2 (i := 219) rfl rfl)
theorem ws_86 : Cond.selects yX11_remove.cls yX11_remove yX11_remove ∈ bigW := (tm2 (i := 220) rfl rfl)
theorem wd_87 : zWd zr_87 := fun _ => ⟨(tm2 (i := 225) rfl rfl), rfl, by decide, by decide⟩
theorem wi_87 : Cond.instanceMethod yX11_copy ∈ bigW := (tm2 (i := 223) rfl rfl)
theorem ws_87 : Cond.selects yX11_copy.cls yX11_copy yX11_copy ∈ bigW := (tm2 (i := 224) rfl rfl)
theorem wd_88 : zWd zr_88 := fun _ => ⟨(tm2 (i := 238) rfl rfl), rfl, by decide, by decide⟩
theorem wi_88 : Cond.instanceMethod yX11_length ∈ bigW := (tm2 (i := 236) rfl rfl)
theorem ws_88 : Cond.selects yX11_length.cls yX11_length yX11_length ∈ bigW := (tm2 (i := 237) rfl rfl)
theorem wd_89 : zWd zr_89 := fun _ => ⟨(tm3 (i := 2) rfl rfl), rfl, by decide, by decide⟩
theorem wi_89 : Cond.instanceMethod yX11_byteAt ∈ bigW := (tm3 (i := 0) rfl rfl)
theorem ws_89 : Cond.selects yX11_byteAt.cls yX11_byteAt yX11_byteAt ∈ bigW := (tm3 (i := 1) rfl rfl)
theorem wd_90 : zWd zr_90 := fun _ => ⟨(tm3 (i := 6) rfl rfl), rfl, by decide, by decide⟩
theorem wi_90 : Cond.instanceMethod yX11_action ∈ bigW := (tm3 (i := 4) rfl rfl)
theorem ws_90 : Cond.selects yX11_action.cls yX11_action yX11_action ∈ bigW := (tm3 (i := 5) rfl rfl)
theorem wd_91 : zWd zr_91 := fun _ => ⟨(tm3 (i := 70) rfl rfl), rfl, by decide, by decide⟩
theorem wi_91 : Cond.instanceMethod yX11_input ∈ bigW := (tm3 (i := 68) rfl rfl)
theorem ws_91 : Cond.selects yX11_input.cls yX11_input yX11_input ∈ bigW := (tm3 (i := 69) rfl rfl)
theorem wd_92 : zWd zr_92 := fun _ => ⟨(tm3 (i := 113) rfl rfl), rfl, by decide, by decide⟩
theorem wi_92 : Cond.instanceMethod yX11_output ∈ bigW := (tm3 (i := 111) rfl rfl)
theorem ws_92 : Cond.selects yX11_output.cls yX11_output yX11_output ∈ bigW := (tm3 (i := 112) rfl rfl)
theorem wd_93 : zWd zr_93 := fun _ => ⟨(tm3 (i := 126) rfl rfl), rfl, by decide, by decide⟩
theorem wi_93 : Cond.instanceMethod yX11_step ∈ bigW := (tm3 (i := 124) rfl rfl)
theorem ws_93 : Cond.selects yX11_step.cls yX11_step yX11_step ∈ bigW := (tm3 (i := 125) rfl rfl)
theorem wd_94 : zWd zr_94 := fun _ => ⟨(tm3 (i := 134) rfl rfl), rfl, by decide, by decide⟩
theorem wi_94 : Cond.instanceMethod yX11_erase ∈ bigW := (tm3 (i := 132) rfl rfl)
theorem ws_94 : Cond.selects yX11_erase.cls yX11_erase yX11_erase ∈ bigW := (tm3 (i := 133) rfl rfl)
theorem wd_95 : zWd zr_95 := fun _ => ⟨(tm3 (i := 144) rfl rfl), rfl, by decide, by decide⟩
theorem wi_95 : Cond.instanceMethod yX11_about ∈ bigW := (tm3 (i := 142) rfl rfl)
theorem ws_95 : Cond.selects yX11_about.cls yX11_about yX11_about ∈ bigW := (tm3 (i := 143) rfl rfl)
theorem wd_96 : zWd zr_96 := fun _ => ⟨(tm3 (i := 154) rfl rfl), rfl, by decide, by decide⟩
theorem wi_96 : Cond.instanceMethod yX11_uses ∈ bigW := (tm3 (i := 152) rfl rfl)
theorem ws_96 : Cond.selects yX11_uses.cls yX11_uses yX11_uses ∈ bigW := (tm3 (i := 153) rfl rfl)
theorem wd_97 : zWd zr_97 := fun _ => ⟨(tm3 (i := 159) rfl rfl), rfl, by decide, by decide⟩
theorem wi_97 : Cond.instanceMethod yX11_build ∈ bigW := (tm3 (i := 157) rfl rfl)
theorem ws_97 : Cond.selects yX11_build.cls yX11_build yX11_build ∈ bigW := (tm3 (i := 158) rfl rfl)
theorem wd_98 : zWd zr_98 := fun _ => ⟨(tm4 (i := 164) rfl rfl), rfl, by decide, by decide⟩
theorem wi_98 : Cond.instanceMethod yX11_done ∈ bigW := (tm4 (i := 162) rfl rfl)
theorem ws_98 : Cond.selects yX11_done.cls yX11_done yX11_done ∈ bigW := (tm4 (i := 163) rfl rfl)
theorem wd_99 : zWd zr_99 := fun _ => ⟨(tm4 (i := 168) rfl rfl), rfl, by decide, by decide⟩
theorem wi_99 : Cond.instanceMethod yX11_changed ∈ bigW := (tm4 (i := 166) rfl rfl)
theorem ws_99 : Cond.selects yX11_changed.cls yX11_changed yX11_changed ∈ bigW := (tm4 (i := 167) rfl rfl)
theorem wd_100 : zWd zr_100 := fun _ => ⟨(tm4 (i := 172) rfl rfl), rfl, by decide, by decide⟩
theorem wi_100 : Cond.instanceMethod yX11_key ∈ bigW := (tm4 (i := 170) rfl rfl)
theorem ws_100 : Cond.selects yX11_key.cls yX11_key yX11_key ∈ bigW := (tm4 (i := 171) rfl rfl)
theorem wd_101 : zWd zr_101 := fun _ => ⟨(tm4 (i := 177) rfl rfl), rfl, by decide, by decide⟩
theorem wi_101 : Cond.instanceMethod yX11_isClean ∈ bigW := (tm4 (i := 175) rfl rfl)
theorem ws_101 : Cond.selects yX11_isClean.cls yX11_isClean yX11_isClean ∈ bigW := (tm4 (i := 176) rfl rfl)
theorem wd_102 : zWd zr_102 := fun _ => ⟨(tm4 (i := 186) rfl rfl), rfl, by decide, by decide⟩
theorem wi_102 : Cond.instanceMethod yX11_capacity ∈ bigW := (tm4 (i := 184) rfl rfl)
theorem ws_102 : Cond.selects yX11_capacity.cls yX11_capacity yX11_capacity ∈ bigW := (tm4 (i := 185) rfl rfl)
theorem wd_103 : zWd zr_103 := fun _ => ⟨(tm4 (i := 191) rfl rfl), rfl, by decide, by decide⟩
theorem wi_103 : Cond.instanceMethod yX11_entry ∈ bigW := (tm4 (i := 189) rfl rfl)
theorem ws_103 : Cond.selects yX11_entry.cls yX11_entry yX11_entry ∈ bigW := (tm4 (i := 190) rfl rfl)
theorem wd_104 : zWd zr_104 := fun _ => ⟨(tm4 (i := 199) rfl rfl), rfl, by decide, by decide⟩
theorem wi_104 : Cond.instanceMethod yX11_forget ∈ bigW := (tm4 (i := 197) rfl rfl)
theorem ws_104 : Cond.selects yX11_forget.cls yX11_forget yX11_forget ∈ bigW := (tm4 (i := 198) rfl rfl)
theorem wd_105 : zWd zr_105 := fun _ => ⟨(tm4 (i := 208) rfl rfl), rfl, by decide, by decide⟩
theorem wi_105 : Cond.instanceMethod yX11_count ∈ bigW := (tm4 (i := 206) rfl rfl)
theorem ws_105 : Cond.selects yX11_count.cls yX11_count yX11_count ∈ bigW := (tm4 (i := 207) rfl rfl)
theorem wd_106 : zWd zr_106 := fun _ => ⟨(tm4 (i := 212) rfl rfl), rfl, by decide, by decide⟩
theorem wi_106 : Cond.instanceMethod yX11_clear ∈ bigW := (tm4 (i := 210) rfl rfl)
theorem ws_106 : Cond.selects yX11_clear.cls yX11_clear yX11_clear ∈ bigW := (tm4 (i := 211) rfl rfl)
theorem wd_107 : zWd zr_107 := fun _ => ⟨(tm2 (i := 213) rfl rfl), rfl, by decide, by decide⟩
theorem wi_107 : Cond.static yX11_isSpace ∈ bigW := (tm2 (i := 212) rfl rfl)
theorem wd_108 : zWd zr_108 := fun _ => ⟨(tm3 (i := 97) rfl rfl), rfl, by decide, by decide⟩
theorem wi_108 : Cond.static yX11_bit ∈ bigW := (tm3 (i := 96) rfl rfl)
theorem wd_109 : zWd zr_109 := fun _ => ⟨(tm2 (i := 210) rfl rfl), rfl, by decide, by decide⟩
theorem wi_109 : Cond.instanceMethod yX11_refusalOfFile ∈ bigW := (tm2 (i := 209) rfl rfl)
theorem ws_109 : Cond.selects yX11_refusalOfFile.cls yX11_refusalOfFile yX11_refusalOfFile ∈ bigW := tmS (i := 5) rfl rfl
theorem wd_110 : zWd zr_110 := fun _ => ⟨(tm2 (i := 206) rfl rfl), rfl, by decide, by decide⟩
theorem wi_110 : Cond.instanceMethod yX11_refusalOfSource ∈ bigW := (tm2 (i := 205) rfl rfl)
theorem ws_110 : Cond.selects yX11_refusalOfSource.cls yX11_refusalOfSource yX11_refusalOfSource ∈ bigW := tmS (i := 4) rfl rfl
theorem wd_111 : zWd zr_111 := fun _ => ⟨(tm3 (i := 177) rfl rfl), rfl, by decide, by decide⟩
theorem wi_111 : Cond.instanceMethod yX11_carryOut ∈ bigW := (tm3 (i := 176) rfl rfl)
theorem ws_111 : Cond.selects yX11_carryOut.cls yX11_carryOut yX11_carryOut ∈ bigW := tmS (i := 6) rfl rfl
theorem wd_112 : zWd zr_112 := fun _ => ⟨(tm4 (i := 228) rfl rfl), rfl, by decide, by decide⟩
theorem wi_112 : Cond.instanceMethod yX12_init ∈ bigW := (tm4 (i := 227) rfl rfl)
theorem wd_113 : zWd zr_113 := fun _ => ⟨(tm5 (i := 166) rfl rfl), rfl, by decide, by decide⟩
theorem wi_113 : Cond.static yX12_in ∈ bigW := (tm5 (i := 165) rfl rfl)
theorem wd_114 : zWd zr_114 := fun _ => ⟨(tm5 (i := 163) rfl rfl), rfl, by decide, by decide⟩
theorem wi_114 : Cond.instanceMethod yX12_isPath ∈ bigW := (tm5 (i := 162) rfl rfl)
theorem ws_114 : Cond.selects yX12_isPath.cls yX12_isPath yX12_isPath ∈ bigW := tmS (i := 20) rfl rfl
theorem wd_115 : zWd zr_115 := fun _ => ⟨(tm5 (i := 223) rfl rfl), rfl, by decide, by decide⟩
theorem wi_115 : Cond.instanceMethod yX12_isAction ∈ bigW := (tm5 (i := 222) rfl rfl)
theorem ws_115 : Cond.selects yX12_isAction.cls yX12_isAction yX12_isAction ∈ bigW := tmS (i := 25) rfl rfl
theorem wd_116 : zWd zr_116 := fun _ => ⟨(tm5 (i := 159) rfl rfl), rfl, by decide, by decide⟩
theorem wi_116 : Cond.instanceMethod yX12_path ∈ bigW := (tm5 (i := 157) rfl rfl)
theorem ws_116 : Cond.selects yX12_path.cls yX12_path yX12_path ∈ bigW := (tm5 (i := 158) rfl rfl)
theorem wd_117 : zWd zr_117 := fun _ => ⟨(tm5 (i := 170) rfl rfl), rfl, by decide, by decide⟩
theorem wi_117 : Cond.instanceMethod yX12_of ∈ bigW := (tm5 (i := 168) rfl rfl)
theorem ws_117 : Cond.selects yX12_of.cls yX12_of yX12_of ∈ bigW := (tm5 (i := 169) rfl rfl)
theorem wd_118 : zWd zr_118 := fun _ => ⟨(tm5 (i := 174) rfl rfl), rfl, by decide, by decide⟩
theorem wi_118 : Cond.instanceMethod yX12_feed ∈ bigW := (tm5 (i := 172) rfl rfl)
theorem ws_118 : Cond.selects yX12_feed.cls yX12_feed yX12_feed ∈ bigW := (tm5 (i := 173) rfl rfl)
theorem wd_119 : zWd zr_119 := fun _ => ⟨(tm5 (i := 183) rfl rfl), rfl, by decide, by decide⟩
theorem wi_119 : Cond.instanceMethod yX12_isBadFile ∈ bigW := (tm5 (i := 182) rfl rfl)
theorem ws_119 : Cond.selects yX12_isBadFile.cls yX12_isBadFile yX12_isBadFile ∈ bigW := tmS (i := 21) rfl rfl
theorem wd_120 : zWd zr_120 := fun _ => ⟨(tm5 (i := 187) rfl rfl), rfl, by decide, by decide⟩
theorem wi_120 : Cond.instanceMethod yX12_isSource ∈ bigW := (tm5 (i := 186) rfl rfl)
theorem ws_120 : Cond.selects yX12_isSource.cls yX12_isSource yX12_isSource ∈ bigW := tmS (i := 22) rfl rfl
theorem wd_121 : zWd zr_121 := fun _ => ⟨(tm5 (i := 179) rfl rfl), rfl, by decide, by decide⟩
theorem wi_121 : Cond.instanceMethod yX12_write ∈ bigW := (tm5 (i := 177) rfl rfl)
theorem ws_121 : Cond.selects yX12_write.cls yX12_write yX12_write ∈ bigW := (tm5 (i := 178) rfl rfl)
theorem wd_122 : zWd zr_122 := fun _ => ⟨(tm5 (i := 191) rfl rfl), rfl, by decide, by decide⟩
theorem wi_122 : Cond.instanceMethod yX12_remove ∈ bigW := (tm5 (i := 189) rfl rfl)
theorem ws_122 : Cond.selects yX12_remove.cls yX12_remove yX12_remove ∈ bigW := (tm5 (i := 190) rfl rfl)
theorem wd_123 : zWd zr_123 := fun _ => ⟨(tm5 (i := 199) rfl rfl), rfl, by decide, by decide⟩
theorem wi_123 : Cond.instanceMethod yX12_isAlike ∈ bigW := (tm5 (i := 198) rfl rfl)
theorem ws_123 : Cond.selects yX12_isAlike.cls yX12_isAlike yX12_isAlike ∈ bigW := tmS (i := 23) rfl rfl
theorem wd_124 : zWd zr_124 := fun _ => ⟨(tm5 (i := 203) rfl rfl), rfl, by decide, by decide⟩
theorem wi_124 : Cond.instanceMethod yX12_copyFile ∈ bigW := (tm5 (i := 202) rfl rfl)
theorem ws_124 : Cond.selects yX12_copyFile.cls yX12_copyFile yX12_copyFile ∈ bigW := tmS (i := 24) rfl rfl
theorem wd_125 : zWd zr_125 := fun _ => ⟨(tm5 (i := 195) rfl rfl), rfl, by decide, by decide⟩
theorem wi_125 : Cond.instanceMethod yX12_copy ∈ bigW := (tm5 (i := 193) rfl rfl)
theorem ws_125 : Cond.selects yX12_copy.cls yX12_copy yX12_copy ∈ bigW := (tm5 (i := 194) rfl rfl)
theorem wd_126 : zWd zr_126 := fun _ => ⟨(tm5 (i := 207) rfl rfl), rfl, by decide, by decide⟩
theorem wi_126 : Cond.instanceMethod yX12_length ∈ bigW := (tm5 (i := 205) rfl rfl)
theorem ws_126 : Cond.selects yX12_length.cls yX12_length yX12_length ∈ bigW := (tm5 (i := 206) rfl rfl)
theorem wd_127 : zWd zr_127 := fun _ => ⟨(tm5 (i := 211) rfl rfl), rfl, by decide, by decide⟩
theorem wi_127 : Cond.instanceMethod yX12_byteAt ∈ bigW := (tm5 (i := 209) rfl rfl)
theorem ws_127 : Cond.selects yX12_byteAt.cls yX12_byteAt yX12_byteAt ∈ bigW := (tm5 (i := 210) rfl rfl)
theorem wd_128 : zWd zr_128 := fun _ => ⟨(tm5 (i := 215) rfl rfl), rfl, by decide, by decide⟩
theorem wi_128 : Cond.instanceMethod yX12_action ∈ bigW := (tm5 (i := 213) rfl rfl)
theorem ws_128 : Cond.selects yX12_action.cls yX12_action yX12_action ∈ bigW := (tm5 (i := 214) rfl rfl)
theorem wd_129 : zWd zr_129 := fun _ => ⟨(tm5 (i := 235) rfl rfl), rfl, by decide, by decide⟩
theorem wi_129 : Cond.instanceMethod yX12_isUsed ∈ bigW := (tm5 (i := 234) rfl rfl)
theorem ws_129 : Cond.selects yX12_isUsed.cls yX12_isUsed yX12_isUsed ∈ bigW := tmS (i := 28) rfl rfl
theorem wd_130 : zWd zr_130 := fun _ => ⟨(tm5 (i := 231) rfl rfl), rfl, by decide, by decide⟩
theorem wi_130 : Cond.instanceMethod yX12_reach ∈ bigW := (tm5 (i := 230) rfl rfl)
theorem ws_130 : Cond.selects yX12_reach.cls yX12_reach yX12_reach ∈ bigW := tmS (i := 27) rfl rfl
theorem wd_131 : zWd zr_131 := fun _ => ⟨(tm5 (i := 239) rfl rfl), rfl, by decide, by decide⟩
theorem wi_131 : Cond.instanceMethod yX12_isCircle ∈ bigW := (tm5 (i := 238) rfl rfl)
theorem ws_131 : Cond.selects yX12_isCircle.cls yX12_isCircle yX12_isCircle ∈ bigW := tmS (i := 29) rfl rfl
theorem wd_132 : zWd zr_132 := fun _ => ⟨(tm5 (i := 219) rfl rfl), rfl, by decide, by decide⟩
theorem wi_132 : Cond.instanceMethod yX12_input ∈ bigW := (tm5 (i := 217) rfl rfl)
theorem ws_132 : Cond.selects yX12_input.cls yX12_input yX12_input ∈ bigW := (tm5 (i := 218) rfl rfl)
theorem wd_133 : zWd zr_133 := fun _ => ⟨(tm5 (i := 227) rfl rfl), rfl, by decide, by decide⟩
theorem wi_133 : Cond.instanceMethod yX12_comesToItself ∈ bigW := (tm5 (i := 226) rfl rfl)
theorem ws_133 : Cond.selects yX12_comesToItself.cls yX12_comesToItself yX12_comesToItself ∈ bigW := tmS (i := 26) rfl rfl
theorem wd_134 : zWd zr_134 := fun _ => ⟨(tm6 (i := 3) rfl rfl), rfl, by decide, by decide⟩
theorem wi_134 : Cond.instanceMethod yX12_output ∈ bigW := (tm6 (i := 1) rfl rfl)
theorem ws_134 : Cond.selects yX12_output.cls yX12_output yX12_output ∈ bigW := (tm6 (i := 2) rfl rfl)
theorem wd_135 : zWd zr_135 := fun _ => ⟨(tm6 (i := 7) rfl rfl), rfl, by decide, by decide⟩
theorem wi_135 : Cond.instanceMethod yX12_step ∈ bigW := (tm6 (i := 5) rfl rfl)
theorem ws_135 : Cond.selects yX12_step.cls yX12_step yX12_step ∈ bigW := (tm6 (i := 6) rfl rfl)
theorem wd_136 : zWd zr_136 := fun _ => ⟨(tm6 (i := 11) rfl rfl), rfl, by decide, by decide⟩
theorem wi_136 : Cond.instanceMethod yX12_erase ∈ bigW := (tm6 (i := 9) rfl rfl)
theorem ws_136 : Cond.selects yX12_erase.cls yX12_erase yX12_erase ∈ bigW := (tm6 (i := 10) rfl rfl)
theorem wd_137 : zWd zr_137 := fun _ => ⟨(tm6 (i := 15) rfl rfl), rfl, by decide, by decide⟩
theorem wi_137 : Cond.instanceMethod yX12_about ∈ bigW := (tm6 (i := 13) rfl rfl)
theorem ws_137 : Cond.selects yX12_about.cls yX12_about yX12_about ∈ bigW := (tm6 (i := 14) rfl rfl)
theorem wd_138 : zWd zr_138 := fun _ => ⟨(tm6 (i := 19) rfl rfl), rfl, by decide, by decide⟩
theorem wi_138 : Cond.instanceMethod yX12_uses ∈ bigW := (tm6 (i := 17) rfl rfl)
theorem ws_138 : Cond.selects yX12_uses.cls yX12_uses yX12_uses ∈ bigW := (tm6 (i := 18) rfl rfl)
theorem wd_139 : zWd zr_139 := fun _ => ⟨(tm6 (i := 35) rfl rfl), rfl, by decide, by decide⟩
theorem wi_139 : Cond.instanceMethod yX12_mix ∈ bigW := (tm6 (i := 34) rfl rfl)
theorem ws_139 : Cond.selects yX12_mix.cls yX12_mix yX12_mix ∈ bigW := tmS (i := 32) rfl rfl
theorem wd_140 : zWd zr_140 := fun _ => ⟨(tm6 (i := 31) rfl rfl), rfl, by decide, by decide⟩
theorem wi_140 : Cond.instanceMethod yX12_mixHead ∈ bigW := (tm6 (i := 30) rfl rfl)
theorem ws_140 : Cond.selects yX12_mixHead.cls yX12_mixHead yX12_mixHead ∈ bigW := tmS (i := 31) rfl rfl
theorem wd_141 : zWd zr_141 := fun _ => ⟨(tm6 (i := 43) rfl rfl), rfl, by decide, by decide⟩
theorem wi_141 : Cond.instanceMethod yX12_list ∈ bigW := (tm6 (i := 42) rfl rfl)
theorem ws_141 : Cond.selects yX12_list.cls yX12_list yX12_list ∈ bigW := tmS (i := 34) rfl rfl
theorem wd_142 : zWd zr_142 := fun _ => ⟨(tm6 (i := 39) rfl rfl), rfl, by decide, by decide⟩
theorem wi_142 : Cond.instanceMethod yX12_mixPart ∈ bigW := (tm6 (i := 38) rfl rfl)
theorem ws_142 : Cond.selects yX12_mixPart.cls yX12_mixPart yX12_mixPart ∈ bigW := tmS (i := 33) rfl rfl
theorem wd_143 : zWd zr_143 := fun _ => ⟨(tm6 (i := 27) rfl rfl), rfl, by decide, by decide⟩
theorem wi_143 : Cond.instanceMethod yX12_layKey ∈ bigW := (tm6 (i := 26) rfl rfl)
theorem ws_143 : Cond.selects yX12_layKey.cls yX12_layKey yX12_layKey ∈ bigW := tmS (i := 30) rfl rfl
theorem wd_144 : zWd zr_144 := fun _ => ⟨(tm6 (i := 46) rfl rfl), rfl, by decide, by decide⟩
theorem wi_144 : Cond.static yX12_signOf ∈ bigW := (tm6 (i := 45) rfl rfl)
theorem wd_145 : zWd zr_145 := fun _ => ⟨(tm6 (i := 23) rfl rfl), rfl, by decide, by decide⟩
theorem wi_145 : Cond.instanceMethod yX12_key ∈ bigW := (tm6 (i := 21) rfl rfl)
theorem ws_145 : Cond.selects yX12_key.cls yX12_key yX12_key ∈ bigW := (tm6 (i := 22) rfl rfl)
theorem wd_146 : zWd zr_146 := fun _ => ⟨(tm6 (i := 60) rfl rfl), rfl, by decide, by decide⟩
theorem wi_146 : Cond.instanceMethod yX12_isRow ∈ bigW := (tm6 (i := 59) rfl rfl)
theorem ws_146 : Cond.selects yX12_isRow.cls yX12_isRow yX12_isRow ∈ bigW := tmS (i := 36) rfl rfl
theorem wd_147 : zWd zr_147 := fun _ => ⟨(tm6 (i := 56) rfl rfl), rfl, by decide, by decide⟩
theorem wi_147 : Cond.instanceMethod yX12_changedOf ∈ bigW := (tm6 (i := 55) rfl rfl)
theorem ws_147 : Cond.selects yX12_changedOf.cls yX12_changedOf yX12_changedOf ∈ bigW := tmS (i := 35) rfl rfl
theorem wd_148 : zWd zr_148 := fun _ => ⟨(tm6 (i := 52) rfl rfl), rfl, by decide, by decide⟩
theorem wi_148 : Cond.instanceMethod yX12_changed ∈ bigW := (tm6 (i := 50) rfl rfl)
theorem ws_148 : Cond.selects yX12_changed.cls yX12_changed yX12_changed ∈ bigW := (tm6 (i := 51) rfl rfl)
theorem wd_149 : zWd zr_149 := fun _ => ⟨(tm6 (i := 80) rfl rfl), rfl, by decide, by decide⟩
theorem wi_149 : Cond.instanceMethod yX12_note ∈ bigW := (tm6 (i := 79) rfl rfl)
theorem ws_149 : Cond.selects yX12_note.cls yX12_note yX12_note ∈ bigW := tmS (i := 40) rfl rfl
theorem wd_150 : zWd zr_150 := fun _ => ⟨(tm6 (i := 100) rfl rfl), rfl, by decide, by decide⟩
theorem wi_150 : Cond.instanceMethod yX12_add ∈ bigW := (tm6 (i := 99) rfl rfl)
theorem ws_150 : Cond.selects yX12_add.cls yX12_add yX12_add ∈ bigW := tmS (i := 45) rfl rfl
theorem wd_151 : zWd zr_151 := fun _ => ⟨(tm6 (i := 112) rfl rfl), rfl, by decide, by decide⟩
theorem wi_151 : Cond.instanceMethod yX12_figures ∈ bigW := (tm6 (i := 111) rfl rfl)
theorem ws_151 : Cond.selects yX12_figures.cls yX12_figures yX12_figures ∈ bigW := tmS (i := 48) rfl rfl
theorem wd_152 : zWd zr_152 := fun _ => ⟨(tm6 (i := 132) rfl rfl), rfl, by decide, by decide⟩
theorem wi_152 : Cond.instanceMethod yX12_read ∈ bigW := (tm6 (i := 131) rfl rfl)
theorem ws_152 : Cond.selects yX12_read.cls yX12_read yX12_read ∈ bigW := tmS (i := 53) rfl rfl
theorem wd_153 : zWd zr_153 := fun _ => ⟨(tm6 (i := 136) rfl rfl), rfl, by decide, by decide⟩
theorem wi_153 : Cond.instanceMethod yX12_listIn ∈ bigW := (tm6 (i := 135) rfl rfl)
theorem ws_153 : Cond.selects yX12_listIn.cls yX12_listIn yX12_listIn ∈ bigW := tmS (i := 54) rfl rfl
theorem wd_154 : zWd zr_154 := fun _ => ⟨(tm6 (i := 92) rfl rfl), rfl, by decide, by decide⟩
theorem wi_154 : Cond.instanceMethod yX12_writeOut ∈ bigW := (tm6 (i := 91) rfl rfl)
theorem ws_154 : Cond.selects yX12_writeOut.cls yX12_writeOut yX12_writeOut ∈ bigW := tmS (i := 43) rfl rfl
theorem wd_155 : zWd zr_155 := fun _ => ⟨(tm6 (i := 104) rfl rfl), rfl, by decide, by decide⟩
theorem wi_155 : Cond.instanceMethod yX12_turn ∈ bigW := (tm6 (i := 103) rfl rfl)
theorem ws_155 : Cond.selects yX12_turn.cls yX12_turn yX12_turn ∈ bigW := tmS (i := 46) rfl rfl
theorem wd_156 : zWd zr_156 := fun _ => ⟨(tm6 (i := 108) rfl rfl), rfl, by decide, by decide⟩
theorem wi_156 : Cond.instanceMethod yX12_sort ∈ bigW := (tm6 (i := 107) rfl rfl)
theorem ws_156 : Cond.selects yX12_sort.cls yX12_sort yX12_sort ∈ bigW := tmS (i := 47) rfl rfl
theorem wd_157 : zWd zr_157 := fun _ => ⟨(tm6 (i := 120) rfl rfl), rfl, by decide, by decide⟩
theorem wi_157 : Cond.instanceMethod yX12_once ∈ bigW := (tm6 (i := 119) rfl rfl)
theorem ws_157 : Cond.selects yX12_once.cls yX12_once yX12_once ∈ bigW := tmS (i := 50) rfl rfl
theorem wd_158 : zWd zr_158 := fun _ => ⟨(tm6 (i := 128) rfl rfl), rfl, by decide, by decide⟩
theorem wi_158 : Cond.instanceMethod yX12_twice ∈ bigW := (tm6 (i := 127) rfl rfl)
theorem ws_158 : Cond.selects yX12_twice.cls yX12_twice yX12_twice ∈ bigW := tmS (i := 52) rfl rfl
theorem wd_159 : zWd zr_159 := fun _ => ⟨(tm6 (i := 116) rfl rfl), rfl, by decide, by decide⟩
theorem wi_159 : Cond.instanceMethod yX12_sum ∈ bigW := (tm6 (i := 115) rfl rfl)
theorem ws_159 : Cond.selects yX12_sum.cls yX12_sum yX12_sum ∈ bigW := tmS (i := 49) rfl rfl
theorem wd_160 : zWd zr_160 := fun _ => ⟨(tm6 (i := 124) rfl rfl), rfl, by decide, by decide⟩
theorem wi_160 : Cond.instanceMethod yX12_mixWith ∈ bigW := (tm6 (i := 123) rfl rfl)
theorem ws_160 : Cond.selects yX12_mixWith.cls yX12_mixWith yX12_mixWith ∈ bigW := tmS (i := 51) rfl rfl
theorem wd_161 : zWd zr_161 := fun _ => ⟨(tm6 (i := 96) rfl rfl), rfl, by decide, by decide⟩
theorem wi_161 : Cond.instanceMethod yX12_alone ∈ bigW := (tm6 (i := 95) rfl rfl)
theorem ws_161 : Cond.selects yX12_alone.cls yX12_alone yX12_alone ∈ bigW := tmS (i := 44) rfl rfl
theorem wd_162 : zWd zr_162 := fun _ => ⟨(tm6 (i := 88) rfl rfl), rfl, by decide, by decide⟩
theorem wi_162 : Cond.instanceMethod yX12_play ∈ bigW := (tm6 (i := 87) rfl rfl)
theorem ws_162 : Cond.selects yX12_play.cls yX12_play yX12_play ∈ bigW := tmS (i := 42) rfl rfl
theorem wd_163 : zWd zr_163 := fun _ => ⟨(tm6 (i := 160) rfl rfl), rfl, by decide, by decide⟩
theorem wi_163 : Cond.instanceMethod yX12_lay ∈ bigW := (tm6 (i := 159) rfl rfl)
theorem ws_163 : Cond.selects yX12_lay.cls yX12_lay yX12_lay ∈ bigW := tmS (i := 60) rfl rfl
theorem wd_164 : zWd zr_164 := fun _ => ⟨(tm6 (i := 148) rfl rfl), rfl, by decide, by decide⟩
theorem wi_164 : Cond.instanceMethod yX12_sizes ∈ bigW := (tm6 (i := 147) rfl rfl)
theorem ws_164 : Cond.selects yX12_sizes.cls yX12_sizes yX12_sizes ∈ bigW := tmS (i := 57) rfl rfl
theorem wd_165 : zWd zr_165 := fun _ => ⟨(tm6 (i := 152) rfl rfl), rfl, by decide, by decide⟩
theorem wi_165 : Cond.instanceMethod yX12_takeOut ∈ bigW := (tm6 (i := 151) rfl rfl)
theorem ws_165 : Cond.selects yX12_takeOut.cls yX12_takeOut yX12_takeOut ∈ bigW := tmS (i := 58) rfl rfl
theorem wd_166 : zWd zr_166 := fun _ => ⟨(tm6 (i := 144) rfl rfl), rfl, by decide, by decide⟩
theorem wi_166 : Cond.instanceMethod yX12_trim ∈ bigW := (tm6 (i := 143) rfl rfl)
theorem ws_166 : Cond.selects yX12_trim.cls yX12_trim yX12_trim ∈ bigW := tmS (i := 56) rfl rfl
theorem wd_167 : zWd zr_167 := fun _ => ⟨(tm6 (i := 84) rfl rfl), rfl, by decide, by decide⟩
theorem wi_167 : Cond.instanceMethod yX12_placeOf ∈ bigW := (tm6 (i := 83) rfl rfl)
theorem ws_167 : Cond.selects yX12_placeOf.cls yX12_placeOf yX12_placeOf ∈ bigW := tmS (i := 41) rfl rfl
theorem wd_168 : zWd zr_168 := fun _ => ⟨(tm6 (i := 140) rfl rfl), rfl, by decide, by decide⟩
theorem wi_168 : Cond.instanceMethod yX12_enter ∈ bigW := (tm6 (i := 139) rfl rfl)
theorem ws_168 : Cond.selects yX12_enter.cls yX12_enter yX12_enter ∈ bigW := tmS (i := 55) rfl rfl
theorem wd_169 : zWd zr_169 := fun _ => ⟨(tm6 (i := 156) rfl rfl), rfl, by decide, by decide⟩
theorem wi_169 : Cond.instanceMethod yX12_use ∈ bigW := (tm6 (i := 155) rfl rfl)
theorem ws_169 : Cond.selects yX12_use.cls yX12_use yX12_use ∈ bigW := tmS (i := 59) rfl rfl
theorem wd_170 : zWd zr_170 := fun _ => ⟨(tm6 (i := 68) rfl rfl), rfl, by decide, by decide⟩
theorem wi_170 : Cond.instanceMethod yX12_need ∈ bigW := (tm6 (i := 67) rfl rfl)
theorem ws_170 : Cond.selects yX12_need.cls yX12_need yX12_need ∈ bigW := tmS (i := 37) rfl rfl
theorem wd_171 : zWd zr_171 := fun _ => ⟨(tm6 (i := 72) rfl rfl), rfl, by decide, by decide⟩
theorem wi_171 : Cond.instanceMethod yX12_next ∈ bigW := (tm6 (i := 71) rfl rfl)
theorem ws_171 : Cond.selects yX12_next.cls yX12_next yX12_next ∈ bigW := tmS (i := 38) rfl rfl
theorem wd_172 : zWd zr_172 := fun _ => ⟨(tm6 (i := 76) rfl rfl), rfl, by decide, by decide⟩
theorem wi_172 : Cond.instanceMethod yX12_does ∈ bigW := (tm6 (i := 75) rfl rfl)
theorem ws_172 : Cond.selects yX12_does.cls yX12_does yX12_does ∈ bigW := tmS (i := 39) rfl rfl
theorem wd_173 : zWd zr_173 := fun _ => ⟨(tm6 (i := 64) rfl rfl), rfl, by decide, by decide⟩
theorem wi_173 : Cond.instanceMethod yX12_build ∈ bigW := (tm6 (i := 62) rfl rfl)
theorem ws_173 : Cond.selects yX12_build.cls yX12_build yX12_build ∈ bigW := (tm6 (i := 63) rfl rfl)
theorem wd_174 : zWd zr_174 := fun _ => ⟨(tm6 (i := 164) rfl rfl), rfl, by decide, by decide⟩
theorem wi_174 : Cond.instanceMethod yX12_done ∈ bigW := (tm6 (i := 162) rfl rfl)
theorem ws_174 : Cond.selects yX12_done.cls yX12_done yX12_done ∈ bigW := (tm6 (i := 163) rfl rfl)
theorem wd_175 : zWd zr_175 := fun _ => ⟨(tm6 (i := 168) rfl rfl), rfl, by decide, by decide⟩
theorem wi_175 : Cond.instanceMethod yX12_isClean ∈ bigW := (tm6 (i := 166) rfl rfl)
theorem ws_175 : Cond.selects yX12_isClean.cls yX12_isClean yX12_isClean ∈ bigW := (tm6 (i := 167) rfl rfl)
theorem wd_176 : zWd zr_176 := fun _ => ⟨(tm6 (i := 172) rfl rfl), rfl, by decide, by decide⟩
theorem wi_176 : Cond.instanceMethod yX12_capacity ∈ bigW := (tm6 (i := 170) rfl rfl)
theorem ws_176 : Cond.selects yX12_capacity.cls yX12_capacity yX12_capacity ∈ bigW := (tm6 (i := 171) rfl rfl)
theorem wd_177 : zWd zr_177 := fun _ => ⟨(tm6 (i := 176) rfl rfl), rfl, by decide, by decide⟩
theorem wi_177 : Cond.instanceMethod yX12_entry ∈ bigW := (tm6 (i := 174) rfl rfl)
theorem ws_177 : Cond.selects yX12_entry.cls yX12_entry yX12_entry ∈ bigW := (tm6 (i := 175) rfl rfl)
theorem wd_178 : zWd zr_178 := fun _ => ⟨(tm6 (i := 181) rfl rfl), rfl, by decide, by decide⟩
theorem wi_178 : Cond.instanceMethod yX12_forget ∈ bigW := (tm6 (i := 179) rfl rfl)
theorem ws_178 : Cond.selects yX12_forget.cls yX12_forget yX12_forget ∈ bigW := (tm6 (i := 180) rfl rfl)
theorem wd_179 : zWd zr_179 := fun _ => ⟨(tm6 (i := 185) rfl rfl), rfl, by decide, by decide⟩
theorem wi_179 : Cond.instanceMethod yX12_count ∈ bigW := (tm6 (i := 183) rfl rfl)
theorem ws_179 : Cond.selects yX12_count.cls yX12_count yX12_count ∈ bigW := (tm6 (i := 184) rfl rfl)
theorem wd_180 : zWd zr_180 := fun _ => ⟨(tm6 (i := 189) rfl rfl), rfl, by decide, by decide⟩
theorem wi_180 : Cond.instanceMethod yX12_clear ∈ bigW := (tm6 (i := 187) rfl rfl)
theorem ws_180 : Cond.selects yX12_clear.cls yX12_clear yX12_clear ∈ bigW := (tm6 (i := 188) rfl rfl)
theorem wd_181 : zWd zr_181 := fun _ => ⟨(tm3 (i := 147) rfl rfl), rfl, by decide, by decide⟩
theorem wi_181 : Cond.static yJ13_bitCount_95d88 ∈ bigW := (tm3 (i := 146) rfl rfl)
theorem wd_182 : zWd zr_182 := fun _ => ⟨(tm1 (i := 48) rfl rfl), rfl, by decide, by decide⟩
theorem wi_182 : Cond.instanceMethod yJxa1e45_init_da8c8 ∈ bigW := (tm1 (i := 47) rfl rfl)
theorem wd_183 : zWd zr_183 := fun _ => ⟨(tm1 (i := 45) rfl rfl), rfl, by decide, by decide⟩
theorem wi_183 : Cond.instanceMethod yJxc12de_init_da8c8 ∈ bigW := (tm1 (i := 44) rfl rfl)
theorem wd_184 : zWd zr_184 := fun _ => ⟨(tm1 (i := 42) rfl rfl), rfl, by decide, by decide⟩
theorem wi_184 : Cond.instanceMethod yJx4a65c_init_da8c8 ∈ bigW := (tm1 (i := 41) rfl rfl)
theorem wd_185 : zWd zr_185 := fun _ => ⟨(tm1 (i := 161) rfl rfl), rfl, by decide, by decide⟩
theorem wi_185 : Cond.instanceMethod yJx4a65c_grow_92f84 ∈ bigW := (tm1 (i := 160) rfl rfl)
theorem ws_185 : Cond.selects yJx4a65c_grow_92f84.cls yJx4a65c_grow_92f84 yJx4a65c_grow_92f84 ∈ bigW := tmS (i := 2) rfl rfl
theorem wd_186 : zWd zr_186 := fun _ => ⟨(tm1 (i := 157) rfl rfl), rfl, by decide, by decide⟩
theorem wi_186 : Cond.instanceMethod yJx4a65c_grow_d5877 ∈ bigW := (tm1 (i := 156) rfl rfl)
theorem ws_186 : Cond.selects yJx4a65c_grow_d5877.cls yJx4a65c_grow_d5877 yJx4a65c_grow_d5877 ∈ bigW := tmS (i := 1) rfl rfl
theorem wd_187 : zWd zr_187 := fun _ => ⟨(tm2 (i := 139) rfl rfl), rfl, by decide, by decide⟩
theorem wi_187 : Cond.instanceMethod yJx4a65c_size_8abf5 ∈ bigW := (tm2 (i := 137) rfl rfl)
theorem ws_187 : Cond.selects yJx4a65c_size_8abf5.cls yJx4a65c_size_8abf5 yJx4a65c_size_8abf5 ∈ bigW := (tm2 (i := 138) rfl rfl)
theorem wd_188 : zWd zr_188 := fun _ => ⟨(tm4 (i := 3) rfl rfl), rfl, by decide, by decide⟩
theorem wi_188 : Cond.instanceMethod yJx4a65c_isEmpty_aae02 ∈ bigW := (tm4 (i := 1) rfl rfl)
theorem ws_188 : Cond.selects yJx4a65c_isEmpty_aae02.cls yJx4a65c_isEmpty_aae02 yJx4a65c_isEmpty_aae02 ∈ bigW := (tm4 (i := 2) rfl rfl)
theorem wd_189 : zWd zr_189 := fun _ => ⟨(tm2 (i := 157) rfl rfl), rfl, by decide, by decide⟩
theorem wi_189 : Cond.instanceMethod yJx4a65c_elementData_915e3 ∈ bigW := (tm2 (i := 155) rfl rfl)
theorem ws_189 : Cond.selects yJx4a65c_elementData_915e3.cls yJx4a65c_elementData_915e3 yJx4a65c_elementData_915e3 ∈ bigW := (tm2 (i := 156) rfl rfl)
theorem wd_190 : zWd zr_190 := fun _ => ⟨(tm2 (i := 147) rfl rfl), rfl, by decide, by decide⟩
theorem wi_190 : Cond.instanceMethod yJx4a65c_get_915e3 ∈ bigW := (tm2 (i := 145) rfl rfl)
theorem ws_190 : Cond.selects yJx4a65c_get_915e3.cls yJx4a65c_get_915e3 yJx4a65c_get_915e3 ∈ bigW := (tm2 (i := 146) rfl rfl)
theorem wd_191 : zWd zr_191 := fun _ => ⟨(tm1 (i := 153) rfl rfl), rfl, by decide, by decide⟩
theorem wi_191 : Cond.instanceMethod yJx4a65c_add_72be8 ∈ bigW := (tm1 (i := 152) rfl rfl)
theorem ws_191 : Cond.selects yJx4a65c_add_72be8.cls yJx4a65c_add_72be8 yJx4a65c_add_72be8 ∈ bigW := tmS (i := 0) rfl rfl
theorem wd_192 : zWd zr_192 := fun _ => ⟨(tm1 (i := 149) rfl rfl), rfl, by decide, by decide⟩
theorem wi_192 : Cond.instanceMethod yJx4a65c_add_9ea2d ∈ bigW := (tm1 (i := 147) rfl rfl)
theorem ws_192 : Cond.selects yJx4a65c_add_9ea2d.cls yJx4a65c_add_9ea2d yJx4a65c_add_9ea2d ∈ bigW := (tm1 (i := 148) rfl rfl)
theorem wd_193 : zWd zr_193 := fun _ => ⟨(tm2 (i := 181) rfl rfl), rfl, by decide, by decide⟩
theorem wi_193 : Cond.instanceMethod yJx4a65c_add_7a177 ∈ bigW := (tm2 (i := 179) rfl rfl)
theorem ws_193 : Cond.selects yJx4a65c_add_7a177.cls yJx4a65c_add_7a177 yJx4a65c_add_7a177 ∈ bigW := (tm2 (i := 180) rfl rfl)
theorem wd_194 : zWd zr_194 := fun _ => ⟨(tm4 (i := 36) rfl rfl), rfl, by decide, by decide⟩
theorem wi_194 : Cond.instanceMethod yJx4a65c_remove_915e3 ∈ bigW := (tm4 (i := 34) rfl rfl)
theorem ws_194 : Cond.selects yJx4a65c_remove_915e3.cls yJx4a65c_remove_915e3 yJx4a65c_remove_915e3 ∈ bigW := (tm4 (i := 35) rfl rfl)
theorem wd_195 : zWd zr_195 := fun _ => ⟨(tm4 (i := 40) rfl rfl), rfl, by decide, by decide⟩
theorem wi_195 : Cond.instanceMethod yJx4a65c_fastRemove_b59b0 ∈ bigW := (tm4 (i := 39) rfl rfl)
theorem ws_195 : Cond.selects yJx4a65c_fastRemove_b59b0.cls yJx4a65c_fastRemove_b59b0 yJx4a65c_fastRemove_b59b0 ∈ bigW := tmS (i := 12) rfl rfl
theorem wd_196 : zWd zr_196 := fun _ => ⟨(tm1 (i := 71) rfl rfl), rfl, by decide, by decide⟩
theorem wi_196 : Cond.instanceMethod yJx4a65c_clear_da8c8 ∈ bigW := (tm1 (i := 69) rfl rfl)
theorem ws_196 : Cond.selects yJx4a65c_clear_da8c8.cls yJx4a65c_clear_da8c8 yJx4a65c_clear_da8c8 ∈ bigW := (tm1 (i := 70) rfl rfl)
theorem wd_197 : zWd zr_197 := fun _ => ⟨(tm2 (i := 185) rfl rfl), rfl, by decide, by decide⟩
theorem wi_197 : Cond.instanceMethod yJx4a65c_rangeCheckForAdd_d00df ∈ bigW := (tm2 (i := 184) rfl rfl)
theorem ws_197 : Cond.selects yJx4a65c_rangeCheckForAdd_d00df.cls yJx4a65c_rangeCheckForAdd_d00df yJx4a65c_rangeCheckForAdd_d00df ∈ bigW := tmS (i := 3) rfl rfl
theorem wd_198 : zWd zr_198 := fun _ => ⟨(tm1 (i := 174) rfl rfl), rfl, by decide, by decide⟩
theorem wi_198 : Cond.static yJ7_copyOf_1904c ∈ bigW := (tm1 (i := 173) rfl rfl)
theorem wd_199 : zWd zr_199 := fun _ => ⟨(tm1 (i := 195) rfl rfl), rfl, by decide, by decide⟩
theorem wi_199 : Cond.static yJ7_copyOf_6403c ∈ bigW := (tm1 (i := 194) rfl rfl)
theorem wd_200 : zWd zr_200 := fun _ => ⟨(tm2 (i := 150) rfl rfl), rfl, by decide, by decide⟩
theorem wi_200 : Cond.static yJ15_checkIndex_7cf53 ∈ bigW := (tm2 (i := 149) rfl rfl)
theorem wd_201 : zWd zr_201 := fun _ => ⟨(tm1 (i := 164) rfl rfl), rfl, by decide, by decide⟩
theorem wi_201 : Cond.static yJ8_newLength_cabcc ∈ bigW := (tm1 (i := 163) rfl rfl)
theorem wd_202 : zWd zr_202 := fun _ => ⟨(tm1 (i := 171) rfl rfl), rfl, by decide, by decide⟩
theorem wi_202 : Cond.static yJ8_hugeLength_7cf53 ∈ bigW := (tm1 (i := 170) rfl rfl)
theorem wd_203 : zWd zr_203 := fun _ => ⟨(tm2 (i := 153) rfl rfl), rfl, by decide, by decide⟩
theorem wi_203 : Cond.static yJ3_checkIndex_8e157 ∈ bigW := (tm2 (i := 152) rfl rfl)
theorem wd_204 : zWd zr_204 := fun h => absurd rfl h
theorem wdg_0 : ∀ t ∈ zTg_0, zWd t := List.forall_mem_cons.mpr ⟨wd_0, List.forall_mem_cons.mpr ⟨wd_1, List.forall_mem_cons.mpr ⟨wd_2, List.forall_mem_cons.mpr ⟨wd_3, List.forall_mem_cons.mpr ⟨wd_4, List.forall_mem_cons.mpr ⟨wd_5, List.forall_mem_cons.mpr ⟨wd_6, List.forall_mem_cons.mpr ⟨wd_7, List.forall_mem_cons.mpr ⟨wd_8, List.forall_mem_cons.mpr ⟨wd_9, List.forall_mem_cons.mpr ⟨wd_10, List.forall_mem_cons.mpr ⟨wd_11, List.forall_mem_cons.mpr ⟨wd_12, List.forall_mem_cons.mpr ⟨wd_13, List.forall_mem_cons.mpr ⟨wd_14, List.forall_mem_cons.mpr ⟨wd_15, List.forall_mem_cons.mpr ⟨wd_16, List.forall_mem_cons.mpr ⟨wd_17, List.forall_mem_cons.mpr ⟨wd_18, List.forall_mem_cons.mpr ⟨wd_19, fun _ h => absurd h List.not_mem_nil⟩⟩⟩⟩⟩⟩⟩⟩⟩⟩⟩⟩⟩⟩⟩⟩⟩⟩⟩⟩
theorem wdg_1 : ∀ t ∈ zTg_1, zWd t := List.forall_mem_cons.mpr ⟨wd_20, List.forall_mem_cons.mpr ⟨wd_21, List.forall_mem_cons.mpr ⟨wd_22, List.forall_mem_cons.mpr ⟨wd_23, List.forall_mem_cons.mpr ⟨wd_24, List.forall_mem_cons.mpr ⟨wd_25, List.forall_mem_cons.mpr ⟨wd_26, List.forall_mem_cons.mpr ⟨wd_27, List.forall_mem_cons.mpr ⟨wd_28, List.forall_mem_cons.mpr ⟨wd_29, List.forall_mem_cons.mpr ⟨wd_30, List.forall_mem_cons.mpr ⟨wd_31, List.forall_mem_cons.mpr ⟨wd_32, List.forall_mem_cons.mpr ⟨wd_33, List.forall_mem_cons.mpr ⟨wd_34, List.forall_mem_cons.mpr ⟨wd_35, List.forall_mem_cons.mpr ⟨wd_36, List.forall_mem_cons.mpr ⟨wd_37, List.forall_mem_cons.mpr ⟨wd_38, List.forall_mem_cons.mpr ⟨wd_39, fun _ h => absurd h List.not_mem_nil⟩⟩⟩⟩⟩⟩⟩⟩⟩⟩⟩⟩⟩⟩⟩⟩⟩⟩⟩⟩
theorem wdg_2 : ∀ t ∈ zTg_2, zWd t := List.forall_mem_cons.mpr ⟨wd_40, List.forall_mem_cons.mpr ⟨wd_41, List.forall_mem_cons.mpr ⟨wd_42, List.forall_mem_cons.mpr ⟨wd_43, List.forall_mem_cons.mpr ⟨wd_44, List.forall_mem_cons.mpr ⟨wd_45, List.forall_mem_cons.mpr ⟨wd_46, List.forall_mem_cons.mpr ⟨wd_47, List.forall_mem_cons.mpr ⟨wd_48, List.forall_mem_cons.mpr ⟨wd_49, List.forall_mem_cons.mpr ⟨wd_50, List.forall_mem_cons.mpr ⟨wd_51, List.forall_mem_cons.mpr ⟨wd_52, List.forall_mem_cons.mpr ⟨wd_53, List.forall_mem_cons.mpr ⟨wd_54, List.forall_mem_cons.mpr ⟨wd_55, List.forall_mem_cons.mpr ⟨wd_56, List.forall_mem_cons.mpr ⟨wd_57, List.forall_mem_cons.mpr ⟨wd_58, List.forall_mem_cons.mpr ⟨wd_59, fun _ h => absurd h List.not_mem_nil⟩⟩⟩⟩⟩⟩⟩⟩⟩⟩⟩⟩⟩⟩⟩⟩⟩⟩⟩⟩
theorem wdg_3 : ∀ t ∈ zTg_3, zWd t := List.forall_mem_cons.mpr ⟨wd_60, List.forall_mem_cons.mpr ⟨wd_61, List.forall_mem_cons.mpr ⟨wd_62, List.forall_mem_cons.mpr ⟨wd_63, List.forall_mem_cons.mpr ⟨wd_64, List.forall_mem_cons.mpr ⟨wd_65, List.forall_mem_cons.mpr ⟨wd_66, List.forall_mem_cons.mpr ⟨wd_67, List.forall_mem_cons.mpr ⟨wd_68, List.forall_mem_cons.mpr ⟨wd_69, List.forall_mem_cons.mpr ⟨wd_70, List.forall_mem_cons.mpr ⟨wd_71, List.forall_mem_cons.mpr ⟨wd_72, List.forall_mem_cons.mpr ⟨wd_73, List.forall_mem_cons.mpr ⟨wd_74, List.forall_mem_cons.mpr ⟨wd_75, List.forall_mem_cons.mpr ⟨wd_76, List.forall_mem_cons.mpr ⟨wd_77, List.forall_mem_cons.mpr ⟨wd_78, List.forall_mem_cons.mpr ⟨wd_79, fun _ h => absurd h List.not_mem_nil⟩⟩⟩⟩⟩⟩⟩⟩⟩⟩⟩⟩⟩⟩⟩⟩⟩⟩⟩⟩
theorem wdg_4 : ∀ t ∈ zTg_4, zWd t := List.forall_mem_cons.mpr ⟨wd_80, List.forall_mem_cons.mpr ⟨wd_81, List.forall_mem_cons.mpr ⟨wd_82, List.forall_mem_cons.mpr ⟨wd_83, List.forall_mem_cons.mpr ⟨wd_84, List.forall_mem_cons.mpr ⟨wd_85, List.forall_mem_cons.mpr ⟨wd_86, List.forall_mem_cons.mpr ⟨wd_87, List.forall_mem_cons.mpr ⟨wd_88, List.forall_mem_cons.mpr ⟨wd_89, List.forall_mem_cons.mpr ⟨wd_90, List.forall_mem_cons.mpr ⟨wd_91, List.forall_mem_cons.mpr ⟨wd_92, List.forall_mem_cons.mpr ⟨wd_93, List.forall_mem_cons.mpr ⟨wd_94, List.forall_mem_cons.mpr ⟨wd_95, List.forall_mem_cons.mpr ⟨wd_96, List.forall_mem_cons.mpr ⟨wd_97, List.forall_mem_cons.mpr ⟨wd_98, List.forall_mem_cons.mpr ⟨wd_99, fun _ h => absurd h List.not_mem_nil⟩⟩⟩⟩⟩⟩⟩⟩⟩⟩⟩⟩⟩⟩⟩⟩⟩⟩⟩⟩
theorem wdg_5 : ∀ t ∈ zTg_5, zWd t := List.forall_mem_cons.mpr ⟨wd_100, List.forall_mem_cons.mpr ⟨wd_101, List.forall_mem_cons.mpr ⟨wd_102, List.forall_mem_cons.mpr ⟨wd_103, List.forall_mem_cons.mpr ⟨wd_104, List.forall_mem_cons.mpr ⟨wd_105, List.forall_mem_cons.mpr ⟨wd_106, List.forall_mem_cons.mpr ⟨wd_107, List.forall_mem_cons.mpr ⟨wd_108, List.forall_mem_cons.mpr ⟨wd_109, List.forall_mem_cons.mpr ⟨wd_110, List.forall_mem_cons.mpr ⟨wd_111, List.forall_mem_cons.mpr ⟨wd_112, List.forall_mem_cons.mpr ⟨wd_113, List.forall_mem_cons.mpr ⟨wd_114, List.forall_mem_cons.mpr ⟨wd_115, List.forall_mem_cons.mpr ⟨wd_116, List.forall_mem_cons.mpr ⟨wd_117, List.forall_mem_cons.mpr ⟨wd_118, List.forall_mem_cons.mpr ⟨wd_119, fun _ h => absurd h List.not_mem_nil⟩⟩⟩⟩⟩⟩⟩⟩⟩⟩⟩⟩⟩⟩⟩⟩⟩⟩⟩⟩
theorem wdg_6 : ∀ t ∈ zTg_6, zWd t := List.forall_mem_cons.mpr ⟨wd_120, List.forall_mem_cons.mpr ⟨wd_121, List.forall_mem_cons.mpr ⟨wd_122, List.forall_mem_cons.mpr ⟨wd_123, List.forall_mem_cons.mpr ⟨wd_124, List.forall_mem_cons.mpr ⟨wd_125, List.forall_mem_cons.mpr ⟨wd_126, List.forall_mem_cons.mpr ⟨wd_127, List.forall_mem_cons.mpr ⟨wd_128, List.forall_mem_cons.mpr ⟨wd_129, List.forall_mem_cons.mpr ⟨wd_130, List.forall_mem_cons.mpr ⟨wd_131, List.forall_mem_cons.mpr ⟨wd_132, List.forall_mem_cons.mpr ⟨wd_133, List.forall_mem_cons.mpr ⟨wd_134, List.forall_mem_cons.mpr ⟨wd_135, List.forall_mem_cons.mpr ⟨wd_136, List.forall_mem_cons.mpr ⟨wd_137, List.forall_mem_cons.mpr ⟨wd_138, List.forall_mem_cons.mpr ⟨wd_139, fun _ h => absurd h List.not_mem_nil⟩⟩⟩⟩⟩⟩⟩⟩⟩⟩⟩⟩⟩⟩⟩⟩⟩⟩⟩⟩
theorem wdg_7 : ∀ t ∈ zTg_7, zWd t := List.forall_mem_cons.mpr ⟨wd_140, List.forall_mem_cons.mpr ⟨wd_141, List.forall_mem_cons.mpr ⟨wd_142, List.forall_mem_cons.mpr ⟨wd_143, List.forall_mem_cons.mpr ⟨wd_144, List.forall_mem_cons.mpr ⟨wd_145, List.forall_mem_cons.mpr ⟨wd_146, List.forall_mem_cons.mpr ⟨wd_147, List.forall_mem_cons.mpr ⟨wd_148, List.forall_mem_cons.mpr ⟨wd_149, List.forall_mem_cons.mpr ⟨wd_150, List.forall_mem_cons.mpr ⟨wd_151, List.forall_mem_cons.mpr ⟨wd_152, List.forall_mem_cons.mpr ⟨wd_153, List.forall_mem_cons.mpr ⟨wd_154, List.forall_mem_cons.mpr ⟨wd_155, List.forall_mem_cons.mpr ⟨wd_156, List.forall_mem_cons.mpr ⟨wd_157, List.forall_mem_cons.mpr ⟨wd_158, List.forall_mem_cons.mpr ⟨wd_159, fun _ h => absurd h List.not_mem_nil⟩⟩⟩⟩⟩⟩⟩⟩⟩⟩⟩⟩⟩⟩⟩⟩⟩⟩⟩⟩
theorem wdg_8 : ∀ t ∈ zTg_8, zWd t := List.forall_mem_cons.mpr ⟨wd_160, List.forall_mem_cons.mpr ⟨wd_161, List.forall_mem_cons.mpr ⟨wd_162, List.forall_mem_cons.mpr ⟨wd_163, List.forall_mem_cons.mpr ⟨wd_164, List.forall_mem_cons.mpr ⟨wd_165, List.forall_mem_cons.mpr ⟨wd_166, List.forall_mem_cons.mpr ⟨wd_167, List.forall_mem_cons.mpr ⟨wd_168, List.forall_mem_cons.mpr ⟨wd_169, List.forall_mem_cons.mpr ⟨wd_170, List.forall_mem_cons.mpr ⟨wd_171, List.forall_mem_cons.mpr ⟨wd_172, List.forall_mem_cons.mpr ⟨wd_173, List.forall_mem_cons.mpr ⟨wd_174, List.forall_mem_cons.mpr ⟨wd_175, List.forall_mem_cons.mpr ⟨wd_176, List.forall_mem_cons.mpr ⟨wd_177, List.forall_mem_cons.mpr ⟨wd_178, List.forall_mem_cons.mpr ⟨wd_179, fun _ h => absurd h List.not_mem_nil⟩⟩⟩⟩⟩⟩⟩⟩⟩⟩⟩⟩⟩⟩⟩⟩⟩⟩⟩⟩
theorem wdg_9 : ∀ t ∈ zTg_9, zWd t := List.forall_mem_cons.mpr ⟨wd_180, List.forall_mem_cons.mpr ⟨wd_181, List.forall_mem_cons.mpr ⟨wd_182, List.forall_mem_cons.mpr ⟨wd_183, List.forall_mem_cons.mpr ⟨wd_184, List.forall_mem_cons.mpr ⟨wd_185, List.forall_mem_cons.mpr ⟨wd_186, List.forall_mem_cons.mpr ⟨wd_187, List.forall_mem_cons.mpr ⟨wd_188, List.forall_mem_cons.mpr ⟨wd_189, List.forall_mem_cons.mpr ⟨wd_190, List.forall_mem_cons.mpr ⟨wd_191, List.forall_mem_cons.mpr ⟨wd_192, List.forall_mem_cons.mpr ⟨wd_193, List.forall_mem_cons.mpr ⟨wd_194, List.forall_mem_cons.mpr ⟨wd_195, List.forall_mem_cons.mpr ⟨wd_196, List.forall_mem_cons.mpr ⟨wd_197, List.forall_mem_cons.mpr ⟨wd_198, List.forall_mem_cons.mpr ⟨wd_199, fun _ h => absurd h List.not_mem_nil⟩⟩⟩⟩⟩⟩⟩⟩⟩⟩⟩⟩⟩⟩⟩⟩⟩⟩⟩⟩
theorem wdg_10 : ∀ t ∈ zTg_10, zWd t := List.forall_mem_cons.mpr ⟨wd_200, List.forall_mem_cons.mpr ⟨wd_201, List.forall_mem_cons.mpr ⟨wd_202, List.forall_mem_cons.mpr ⟨wd_203, List.forall_mem_cons.mpr ⟨wd_204, fun _ h => absurd h List.not_mem_nil⟩⟩⟩⟩⟩
theorem zT_wd : ∀ t ∈ zT, zWd t := List.forall_mem_append.mpr ⟨wdg_0, List.forall_mem_append.mpr ⟨wdg_1, List.forall_mem_append.mpr ⟨wdg_2, List.forall_mem_append.mpr ⟨wdg_3, List.forall_mem_append.mpr ⟨wdg_4, List.forall_mem_append.mpr ⟨wdg_5, List.forall_mem_append.mpr ⟨wdg_6, List.forall_mem_append.mpr ⟨wdg_7, List.forall_mem_append.mpr ⟨wdg_8, List.forall_mem_append.mpr ⟨wdg_9, wdg_10⟩⟩⟩⟩⟩⟩⟩⟩⟩⟩
theorem zT_len : zT.length = 205 := by decide +kernel
theorem law_at : ∀ m, m < 204 → mC m ≠ 24 := by decide +kernel
theorem mW {m : Nat} (h : m < 204) : Cond.code (mY m) (mB m) (mL m) (mR m) ∈ bigW ∧ (mY m).cls = cNm (mC m) ∧ mC m < 23 ∧ mC m ≠ 21 := by
  have hm : mE m ∈ zT := by
    unfold mE
    rw [List.getD_eq_getElem?_getD]
    have hl : m < zT.length := by rw [zT_len]; omega
    rw [List.getElem?_eq_getElem hl]
    exact List.getElem_mem hl
  exact zT_wd _ hm (law_at m h)
