def zDk (t : zR) : Bool := t.2.2.2.2.2.2.2.all (fun e => decide (decode t.2.1 e.1 = .ok (e.2.1, zLen e.1 e.2.1)))
def zOks (t : zR) : Bool := t.2.2.2.2.2.2.2.all (zOk t)
set_option maxRecDepth 100000 in
theorem dk_0 : zDk zr_0 = true ∧ zOks zr_0 = true := ⟨by decide +kernel, by decide +kernel⟩
set_option maxRecDepth 100000 in
theorem dk_1 : zDk zr_1 = true ∧ zOks zr_1 = true := ⟨by decide +kernel, by decide +kernel⟩
set_option maxRecDepth 100000 in
theorem dk_2 : zDk zr_2 = true ∧ zOks zr_2 = true := ⟨by decide +kernel, by decide +kernel⟩
set_option maxRecDepth 100000 in
theorem dk_3 : zDk zr_3 = true ∧ zOks zr_3 = true := ⟨by decide +kernel, by decide +kernel⟩
set_option maxRecDepth 100000 in
theorem dk_4 : zDk zr_4 = true ∧ zOks zr_4 = true := ⟨by decide +kernel, by decide +kernel⟩
set_option maxRecDepth 100000 in
theorem dk_5 : zDk zr_5 = true ∧ zOks zr_5 = true := ⟨by decide +kernel, by decide +kernel⟩
set_option maxRecDepth 100000 in
theorem dk_6 : zDk zr_6 = true ∧ zOks zr_6 = true := ⟨by decide +kernel, by decide +kernel⟩
set_option maxRecDepth 100000 in
theorem dk_7 : zDk zr_7 = true ∧ zOks zr_7 = true := ⟨by decide +kernel, by decide +kernel⟩
set_option maxRecDepth 100000 in
theorem dk_8 : zDk zr_8 = true ∧ zOks zr_8 = true := ⟨by decide +kernel, by decide +kernel⟩
set_option maxRecDepth 100000 in
theorem dk_9 : zDk zr_9 = true ∧ zOks zr_9 = true := ⟨by decide +kernel, by decide +kernel⟩
set_option maxRecDepth 100000 in
theorem dk_10 : zDk zr_10 = true ∧ zOks zr_10 = true := ⟨by decide +kernel, by decide +kernel⟩
set_option maxRecDepth 100000 in
theorem dk_11 : zDk zr_11 = true ∧ zOks zr_11 = true := ⟨by decide +kernel, by decide +kernel⟩
set_option maxRecDepth 100000 in
theorem dk_12 : zDk zr_12 = true ∧ zOks zr_12 = true := ⟨by decide +kernel, by decide +kernel⟩
set_option maxRecDepth 100000 in
theorem dk_13 : zDk zr_13 = true ∧ zOks zr_13 = true := ⟨by decide +kernel, by decide +kernel⟩
set_option maxRecDepth 100000 in
theorem dk_14 : zDk zr_14 = true ∧ zOks zr_14 = true := ⟨by decide +kernel, by decide +kernel⟩
set_option maxRecDepth 100000 in
theorem dk_15 : zDk zr_15 = true ∧ zOks zr_15 = true := ⟨by decide +kernel, by decide +kernel⟩
set_option maxRecDepth 100000 in
theorem dk_16 : zDk zr_16 = true ∧ zOks zr_16 = true := ⟨by decide +kernel, by decide +kernel⟩
set_option maxRecDepth 100000 in
theorem dk_17 : zDk zr_17 = true ∧ zOks zr_17 = true := ⟨by decide +kernel, by decide +kernel⟩
set_option maxRecDepth 100000 in
theorem dk_18 : zDk zr_18 = true ∧ zOks zr_18 = true := ⟨by decide +kernel, by decide +kernel⟩
set_option maxRecDepth 100000 in
theorem dk_19 : zDk zr_19 = true ∧ zOks zr_19 = true := ⟨by decide +kernel, by decide +kernel⟩
set_option maxRecDepth 100000 in
theorem dk_20 : zDk zr_20 = true ∧ zOks zr_20 = true := ⟨by decide +kernel, by decide +kernel⟩
set_option maxRecDepth 100000 in
theorem dk_21 : zDk zr_21 = true ∧ zOks zr_21 = true := ⟨by decide +kernel, by decide +kernel⟩
set_option maxRecDepth 100000 in
theorem dk_22 : zDk zr_22 = true ∧ zOks zr_22 = true := ⟨by decide +kernel, by decide +kernel⟩
set_option maxRecDepth 100000 in
theorem dk_23 : zDk zr_23 = true ∧ zOks zr_23 = true := ⟨by decide +kernel, by decide +kernel⟩
set_option maxRecDepth 100000 in
theorem dk_24 : zDk zr_24 = true ∧ zOks zr_24 = true := ⟨by decide +kernel, by decide +kernel⟩
set_option maxRecDepth 100000 in
theorem dk_25 : zDk zr_25 = true ∧ zOks zr_25 = true := ⟨by decide +kernel, by decide +kernel⟩
set_option maxRecDepth 100000 in
theorem dk_26 : zDk zr_26 = true ∧ zOks zr_26 = true := ⟨by decide +kernel, by decide +kernel⟩
set_option maxRecDepth 100000 in
theorem dk_27 : zDk zr_27 = true ∧ zOks zr_27 = true := ⟨by decide +kernel, by decide +kernel⟩
set_option maxRecDepth 100000 in
theorem dk_28 : zDk zr_28 = true ∧ zOks zr_28 = true := ⟨by decide +kernel, by decide +kernel⟩
set_option maxRecDepth 100000 in
theorem dk_29 : zDk zr_29 = true ∧ zOks zr_29 = true := ⟨by decide +kernel, by decide +kernel⟩
set_option maxRecDepth 100000 in
theorem dk_30 : zDk zr_30 = true ∧ zOks zr_30 = true := ⟨by decide +kernel, by decide +kernel⟩
set_option maxRecDepth 100000 in
theorem dk_31 : zDk zr_31 = true ∧ zOks zr_31 = true := ⟨by decide +kernel, by decide +kernel⟩
set_option maxRecDepth 100000 in
theorem dk_32 : zDk zr_32 = true ∧ zOks zr_32 = true := ⟨by decide +kernel, by decide +kernel⟩
set_option maxRecDepth 100000 in
theorem dk_33 : zDk zr_33 = true ∧ zOks zr_33 = true := ⟨by decide +kernel, by decide +kernel⟩
set_option maxRecDepth 100000 in
theorem dk_34 : zDk zr_34 = true ∧ zOks zr_34 = true := ⟨by decide +kernel, by decide +kernel⟩
set_option maxRecDepth 100000 in
theorem dk_35 : zDk zr_35 = true ∧ zOks zr_35 = true := ⟨by decide +kernel, by decide +kernel⟩
set_option maxRecDepth 100000 in
theorem dk_36 : zDk zr_36 = true ∧ zOks zr_36 = true := ⟨by decide +kernel, by decide +kernel⟩
set_option maxRecDepth 100000 in
theorem dk_37 : zDk zr_37 = true ∧ zOks zr_37 = true := ⟨by decide +kernel, by decide +kernel⟩
set_option maxRecDepth 100000 in
theorem dk_38 : zDk zr_38 = true ∧ zOks zr_38 = true := ⟨by decide +kernel, by decide +kernel⟩
set_option maxRecDepth 100000 in
theorem dk_39 : zDk zr_39 = true ∧ zOks zr_39 = true := ⟨by decide +kernel, by decide +kernel⟩
set_option maxRecDepth 100000 in
theorem dk_40 : zDk zr_40 = true ∧ zOks zr_40 = true := ⟨by decide +kernel, by decide +kernel⟩
set_option maxRecDepth 100000 in
theorem dk_41 : zDk zr_41 = true ∧ zOks zr_41 = true := ⟨by decide +kernel, by decide +kernel⟩
set_option maxRecDepth 100000 in
theorem dk_42 : zDk zr_42 = true ∧ zOks zr_42 = true := ⟨by decide +kernel, by decide +kernel⟩
set_option maxRecDepth 100000 in
theorem dk_43 : zDk zr_43 = true ∧ zOks zr_43 = true := ⟨by decide +kernel, by decide +kernel⟩
set_option maxRecDepth 100000 in
theorem dk_44 : zDk zr_44 = true ∧ zOks zr_44 = true := ⟨by decide +kernel, by decide +kernel⟩
set_option maxRecDepth 100000 in
theorem dk_45 : zDk zr_45 = true ∧ zOks zr_45 = true := ⟨by decide +kernel, by decide +kernel⟩
set_option maxRecDepth 100000 in
theorem dk_46 : zDk zr_46 = true ∧ zOks zr_46 = true := ⟨by decide +kernel, by decide +kernel⟩
set_option maxRecDepth 100000 in
theorem dk_47 : zDk zr_47 = true ∧ zOks zr_47 = true := ⟨by decide +kernel, by decide +kernel⟩
set_option maxRecDepth 100000 in
theorem dk_48 : zDk zr_48 = true ∧ zOks zr_48 = true := ⟨by decide +kernel, by decide +kernel⟩
set_option maxRecDepth 100000 in
theorem dk_49 : zDk zr_49 = true ∧ zOks zr_49 = true := ⟨by decide +kernel, by decide +kernel⟩
set_option maxRecDepth 100000 in
theorem dk_50 : zDk zr_50 = true ∧ zOks zr_50 = true := ⟨by decide +kernel, by decide +kernel⟩
set_option maxRecDepth 100000 in
theorem dk_51 : zDk zr_51 = true ∧ zOks zr_51 = true := ⟨by decide +kernel, by decide +kernel⟩
set_option maxRecDepth 100000 in
theorem dk_52 : zDk zr_52 = true ∧ zOks zr_52 = true := ⟨by decide +kernel, by decide +kernel⟩
set_option maxRecDepth 100000 in
theorem dk_53 : zDk zr_53 = true ∧ zOks zr_53 = true := ⟨by decide +kernel, by decide +kernel⟩
set_option maxRecDepth 100000 in
theorem dk_54 : zDk zr_54 = true ∧ zOks zr_54 = true := ⟨by decide +kernel, by decide +kernel⟩
set_option maxRecDepth 100000 in
theorem dk_55 : zDk zr_55 = true ∧ zOks zr_55 = true := ⟨by decide +kernel, by decide +kernel⟩
set_option maxRecDepth 100000 in
theorem dk_56 : zDk zr_56 = true ∧ zOks zr_56 = true := ⟨by decide +kernel, by decide +kernel⟩
set_option maxRecDepth 100000 in
theorem dk_57 : zDk zr_57 = true ∧ zOks zr_57 = true := ⟨by decide +kernel, by decide +kernel⟩
set_option maxRecDepth 100000 in
theorem dk_58 : zDk zr_58 = true ∧ zOks zr_58 = true := ⟨by decide +kernel, by decide +kernel⟩
set_option maxRecDepth 100000 in
theorem dk_59 : zDk zr_59 = true ∧ zOks zr_59 = true := ⟨by decide +kernel, by decide +kernel⟩
set_option maxRecDepth 100000 in
theorem dk_60 : zDk zr_60 = true ∧ zOks zr_60 = true := ⟨by decide +kernel, by decide +kernel⟩
set_option maxRecDepth 100000 in
theorem dk_61 : zDk zr_61 = true ∧ zOks zr_61 = true := ⟨by decide +kernel, by decide +kernel⟩
set_option maxRecDepth 100000 in
theorem dk_62 : zDk zr_62 = true ∧ zOks zr_62 = true := ⟨by decide +kernel, by decide +kernel⟩
set_option maxRecDepth 100000 in
theorem dk_63 : zDk zr_63 = true ∧ zOks zr_63 = true := ⟨by decide +kernel, by decide +kernel⟩
set_option maxRecDepth 100000 in
theorem dk_64 : zDk zr_64 = true ∧ zOks zr_64 = true := ⟨by decide +kernel, by decide +kernel⟩
set_option maxRecDepth 100000 in
theorem dk_65 : zDk zr_65 = true ∧ zOks zr_65 = true := ⟨by decide +kernel, by decide +kernel⟩
set_option maxRecDepth 100000 in
theorem dk_66 : zDk zr_66 = true ∧ zOks zr_66 = true := ⟨by decide +kernel, by decide +kernel⟩
set_option maxRecDepth 100000 in
theorem dk_67 : zDk zr_67 = true ∧ zOks zr_67 = true := ⟨by decide +kernel, by decide +kernel⟩
set_option maxRecDepth 100000 in
theorem dk_68 : zDk zr_68 = true ∧ zOks zr_68 = true := ⟨by decide +kernel, by decide +kernel⟩
set_option maxRecDepth 100000 in
theorem dk_69 : zDk zr_69 = true ∧ zOks zr_69 = true := ⟨by decide +kernel, by decide +kernel⟩
set_option maxRecDepth 100000 in
theorem dk_70 : zDk zr_70 = true ∧ zOks zr_70 = true := ⟨by decide +kernel, by decide +kernel⟩
set_option maxRecDepth 100000 in
theorem dk_71 : zDk zr_71 = true ∧ zOks zr_71 = true := ⟨by decide +kernel, by decide +kernel⟩
set_option maxRecDepth 100000 in
theorem dk_72 : zDk zr_72 = true ∧ zOks zr_72 = true := ⟨by decide +kernel, by decide +kernel⟩
set_option maxRecDepth 100000 in
theorem dk_73 : zDk zr_73 = true ∧ zOks zr_73 = true := ⟨by decide +kernel, by decide +kernel⟩
set_option maxRecDepth 100000 in
theorem dk_74 : zDk zr_74 = true ∧ zOks zr_74 = true := ⟨by decide +kernel, by decide +kernel⟩
set_option maxRecDepth 100000 in
theorem dk_75 : zDk zr_75 = true ∧ zOks zr_75 = true := ⟨by decide +kernel, by decide +kernel⟩
set_option maxRecDepth 100000 in
theorem dk_76 : zDk zr_76 = true ∧ zOks zr_76 = true := ⟨by decide +kernel, by decide +kernel⟩
set_option maxRecDepth 100000 in
theorem dk_77 : zDk zr_77 = true ∧ zOks zr_77 = true := ⟨by decide +kernel, by decide +kernel⟩
set_option maxRecDepth 100000 in
theorem dk_78 : zDk zr_78 = true ∧ zOks zr_78 = true := ⟨by decide +kernel, by decide +kernel⟩
set_option maxRecDepth 100000 in
theorem dk_79 : zDk zr_79 = true ∧ zOks zr_79 = true := ⟨by decide +kernel, by decide +kernel⟩
set_option maxRecDepth 100000 in
theorem dk_80 : zDk zr_80 = true ∧ zOks zr_80 = true := ⟨by decide +kernel, by decide +kernel⟩
set_option maxRecDepth 100000 in
theorem dk_81 : zDk zr_81 = true ∧ zOks zr_81 = true := ⟨by decide +kernel, by decide +kernel⟩
