set_option maxRecDepth 100000 in
theorem dk_153 : zDk zr_153 = true ∧ zOks zr_153 = true := ⟨by decide +kernel, by decide +kernel⟩
set_option maxRecDepth 100000 in
theorem dk_154 : zDk zr_154 = true ∧ zOks zr_154 = true := ⟨by decide +kernel, by decide +kernel⟩
set_option maxRecDepth 100000 in
theorem dk_155 : zDk zr_155 = true ∧ zOks zr_155 = true := ⟨by decide +kernel, by decide +kernel⟩
set_option maxRecDepth 100000 in
theorem dk_156 : zDk zr_156 = true ∧ zOks zr_156 = true := ⟨by decide +kernel, by decide +kernel⟩
set_option maxRecDepth 100000 in
theorem dk_157 : zDk zr_157 = true ∧ zOks zr_157 = true := ⟨by decide +kernel, by decide +kernel⟩
set_option maxRecDepth 100000 in
theorem dk_158 : zDk zr_158 = true ∧ zOks zr_158 = true := ⟨by decide +kernel, by decide +kernel⟩
set_option maxRecDepth 100000 in
theorem dk_159 : zDk zr_159 = true ∧ zOks zr_159 = true := ⟨by decide +kernel, by decide +kernel⟩
set_option maxRecDepth 100000 in
theorem dk_160 : zDk zr_160 = true ∧ zOks zr_160 = true := ⟨by decide +kernel, by decide +kernel⟩
set_option maxRecDepth 100000 in
theorem dk_161 : zDk zr_161 = true ∧ zOks zr_161 = true := ⟨by decide +kernel, by decide +kernel⟩
set_option maxRecDepth 100000 in
theorem dk_162 : zDk zr_162 = true ∧ zOks zr_162 = true := ⟨by decide +kernel, by decide +kernel⟩
set_option maxRecDepth 100000 in
theorem dk_163 : zDk zr_163 = true ∧ zOks zr_163 = true := ⟨by decide +kernel, by decide +kernel⟩
set_option maxRecDepth 100000 in
theorem dk_164 : zDk zr_164 = true ∧ zOks zr_164 = true := ⟨by decide +kernel, by decide +kernel⟩
set_option maxRecDepth 100000 in
theorem dk_165 : zDk zr_165 = true ∧ zOks zr_165 = true := ⟨by decide +kernel, by decide +kernel⟩
set_option maxRecDepth 100000 in
theorem dk_166 : zDk zr_166 = true ∧ zOks zr_166 = true := ⟨by decide +kernel, by decide +kernel⟩
set_option maxRecDepth 100000 in
theorem dk_167 : zDk zr_167 = true ∧ zOks zr_167 = true := ⟨by decide +kernel, by decide +kernel⟩
set_option maxRecDepth 100000 in
theorem dk_168 : zDk zr_168 = true ∧ zOks zr_168 = true := ⟨by decide +kernel, by decide +kernel⟩
set_option maxRecDepth 100000 in
theorem dk_169 : zDk zr_169 = true ∧ zOks zr_169 = true := ⟨by decide +kernel, by decide +kernel⟩
set_option maxRecDepth 100000 in
theorem dk_170 : zDk zr_170 = true ∧ zOks zr_170 = true := ⟨by decide +kernel, by decide +kernel⟩
set_option maxRecDepth 100000 in
theorem dk_171 : zDk zr_171 = true ∧ zOks zr_171 = true := ⟨by decide +kernel, by decide +kernel⟩
set_option maxRecDepth 100000 in
theorem dk_172 : zDk zr_172 = true ∧ zOks zr_172 = true := ⟨by decide +kernel, by decide +kernel⟩
set_option maxRecDepth 100000 in
theorem dk_173 : zDk zr_173 = true ∧ zOks zr_173 = true := ⟨by decide +kernel, by decide +kernel⟩
set_option maxRecDepth 100000 in
theorem dk_174 : zDk zr_174 = true ∧ zOks zr_174 = true := ⟨by decide +kernel, by decide +kernel⟩
set_option maxRecDepth 100000 in
theorem dk_175 : zDk zr_175 = true ∧ zOks zr_175 = true := ⟨by decide +kernel, by decide +kernel⟩
set_option maxRecDepth 100000 in
theorem dk_176 : zDk zr_176 = true ∧ zOks zr_176 = true := ⟨by decide +kernel, by decide +kernel⟩
set_option maxRecDepth 100000 in
theorem dk_177 : zDk zr_177 = true ∧ zOks zr_177 = true := ⟨by decide +kernel, by decide +kernel⟩
set_option maxRecDepth 100000 in
theorem dk_178 : zDk zr_178 = true ∧ zOks zr_178 = true := ⟨by decide +kernel, by decide +kernel⟩
set_option maxRecDepth 100000 in
theorem dk_179 : zDk zr_179 = true ∧ zOks zr_179 = true := ⟨by decide +kernel, by decide +kernel⟩
set_option maxRecDepth 100000 in
theorem dk_180 : zDk zr_180 = true ∧ zOks zr_180 = true := ⟨by decide +kernel, by decide +kernel⟩
set_option maxRecDepth 100000 in
theorem dk_181 : zDk zr_181 = true ∧ zOks zr_181 = true := ⟨by decide +kernel, by decide +kernel⟩
set_option maxRecDepth 100000 in
theorem dk_182 : zDk zr_182 = true ∧ zOks zr_182 = true := ⟨by decide +kernel, by decide +kernel⟩
set_option maxRecDepth 100000 in
theorem dk_183 : zDk zr_183 = true ∧ zOks zr_183 = true := ⟨by decide +kernel, by decide +kernel⟩
set_option maxRecDepth 100000 in
theorem dk_184 : zDk zr_184 = true ∧ zOks zr_184 = true := ⟨by decide +kernel, by decide +kernel⟩
set_option maxRecDepth 100000 in
theorem dk_185 : zDk zr_185 = true ∧ zOks zr_185 = true := ⟨by decide +kernel, by decide +kernel⟩
set_option maxRecDepth 100000 in
theorem dk_186 : zDk zr_186 = true ∧ zOks zr_186 = true := ⟨by decide +kernel, by decide +kernel⟩
set_option maxRecDepth 100000 in
theorem dk_187 : zDk zr_187 = true ∧ zOks zr_187 = true := ⟨by decide +kernel, by decide +kernel⟩
set_option maxRecDepth 100000 in
theorem dk_188 : zDk zr_188 = true ∧ zOks zr_188 = true := ⟨by decide +kernel, by decide +kernel⟩
set_option maxRecDepth 100000 in
theorem dk_189 : zDk zr_189 = true ∧ zOks zr_189 = true := ⟨by decide +kernel, by decide +kernel⟩
set_option maxRecDepth 100000 in
theorem dk_190 : zDk zr_190 = true ∧ zOks zr_190 = true := ⟨by decide +kernel, by decide +kernel⟩
set_option maxRecDepth 100000 in
theorem dk_191 : zDk zr_191 = true ∧ zOks zr_191 = true := ⟨by decide +kernel, by decide +kernel⟩
set_option maxRecDepth 100000 in
theorem dk_192 : zDk zr_192 = true ∧ zOks zr_192 = true := ⟨by decide +kernel, by decide +kernel⟩
set_option maxRecDepth 100000 in
theorem dk_193 : zDk zr_193 = true ∧ zOks zr_193 = true := ⟨by decide +kernel, by decide +kernel⟩
set_option maxRecDepth 100000 in
theorem dk_194 : zDk zr_194 = true ∧ zOks zr_194 = true := ⟨by decide +kernel, by decide +kernel⟩
set_option maxRecDepth 100000 in
theorem dk_195 : zDk zr_195 = true ∧ zOks zr_195 = true := ⟨by decide +kernel, by decide +kernel⟩
set_option maxRecDepth 100000 in
theorem dk_196 : zDk zr_196 = true ∧ zOks zr_196 = true := ⟨by decide +kernel, by decide +kernel⟩
set_option maxRecDepth 100000 in
theorem dk_197 : zDk zr_197 = true ∧ zOks zr_197 = true := ⟨by decide +kernel, by decide +kernel⟩
set_option maxRecDepth 100000 in
theorem dk_198 : zDk zr_198 = true ∧ zOks zr_198 = true := ⟨by decide +kernel, by decide +kernel⟩
set_option maxRecDepth 100000 in
theorem dk_199 : zDk zr_199 = true ∧ zOks zr_199 = true := ⟨by decide +kernel, by decide +kernel⟩
set_option maxRecDepth 100000 in
theorem dk_200 : zDk zr_200 = true ∧ zOks zr_200 = true := ⟨by decide +kernel, by decide +kernel⟩
set_option maxRecDepth 100000 in
theorem dk_201 : zDk zr_201 = true ∧ zOks zr_201 = true := ⟨by decide +kernel, by decide +kernel⟩
set_option maxRecDepth 100000 in
theorem dk_202 : zDk zr_202 = true ∧ zOks zr_202 = true := ⟨by decide +kernel, by decide +kernel⟩
set_option maxRecDepth 100000 in
theorem dk_203 : zDk zr_203 = true ∧ zOks zr_203 = true := ⟨by decide +kernel, by decide +kernel⟩
set_option maxRecDepth 100000 in
theorem dkl_0 : ∀ e ∈ zc_204_0, decide (decode cL_law e.1 = .ok (e.2.1, zLen e.1 e.2.1)) = true := by decide +kernel
set_option maxRecDepth 100000 in
theorem okl_0 : ∀ e ∈ zc_204_0, zOk zr_204 e = true := by decide +kernel
set_option maxRecDepth 100000 in
theorem dkl_1 : ∀ e ∈ zc_204_1, decide (decode cL_law e.1 = .ok (e.2.1, zLen e.1 e.2.1)) = true := by decide +kernel
set_option maxRecDepth 100000 in
theorem okl_1 : ∀ e ∈ zc_204_1, zOk zr_204 e = true := by decide +kernel
set_option maxRecDepth 100000 in
theorem dkl_2 : ∀ e ∈ zc_204_2, decide (decode cL_law e.1 = .ok (e.2.1, zLen e.1 e.2.1)) = true := by decide +kernel
set_option maxRecDepth 100000 in
theorem okl_2 : ∀ e ∈ zc_204_2, zOk zr_204 e = true := by decide +kernel
set_option maxRecDepth 100000 in
theorem dkl_3 : ∀ e ∈ zc_204_3, decide (decode cL_law e.1 = .ok (e.2.1, zLen e.1 e.2.1)) = true := by decide +kernel
set_option maxRecDepth 100000 in
theorem okl_3 : ∀ e ∈ zc_204_3, zOk zr_204 e = true := by decide +kernel
set_option maxRecDepth 100000 in
theorem dkl_4 : ∀ e ∈ zc_204_4, decide (decode cL_law e.1 = .ok (e.2.1, zLen e.1 e.2.1)) = true := by decide +kernel
set_option maxRecDepth 100000 in
theorem okl_4 : ∀ e ∈ zc_204_4, zOk zr_204 e = true := by decide +kernel
set_option maxRecDepth 100000 in
theorem dkl_5 : ∀ e ∈ zc_204_5, decide (decode cL_law e.1 = .ok (e.2.1, zLen e.1 e.2.1)) = true := by decide +kernel
set_option maxRecDepth 100000 in
theorem okl_5 : ∀ e ∈ zc_204_5, zOk zr_204 e = true := by decide +kernel
set_option maxRecDepth 100000 in
theorem dkl_6 : ∀ e ∈ zc_204_6, decide (decode cL_law e.1 = .ok (e.2.1, zLen e.1 e.2.1)) = true := by decide +kernel
set_option maxRecDepth 100000 in
theorem okl_6 : ∀ e ∈ zc_204_6, zOk zr_204 e = true := by decide +kernel
set_option maxRecDepth 100000 in
theorem dkl_7 : ∀ e ∈ zc_204_7, decide (decode cL_law e.1 = .ok (e.2.1, zLen e.1 e.2.1)) = true := by decide +kernel
set_option maxRecDepth 100000 in
theorem okl_7 : ∀ e ∈ zc_204_7, zOk zr_204 e = true := by decide +kernel
set_option maxRecDepth 100000 in
theorem dkl_8 : ∀ e ∈ zc_204_8, decide (decode cL_law e.1 = .ok (e.2.1, zLen e.1 e.2.1)) = true := by decide +kernel
set_option maxRecDepth 100000 in
theorem okl_8 : ∀ e ∈ zc_204_8, zOk zr_204 e = true := by decide +kernel
set_option maxRecDepth 100000 in
theorem dkl_9 : ∀ e ∈ zc_204_9, decide (decode cL_law e.1 = .ok (e.2.1, zLen e.1 e.2.1)) = true := by decide +kernel
set_option maxRecDepth 100000 in
theorem okl_9 : ∀ e ∈ zc_204_9, zOk zr_204 e = true := by decide +kernel
set_option maxRecDepth 100000 in
theorem dkl_10 : ∀ e ∈ zc_204_10, decide (decode cL_law e.1 = .ok (e.2.1, zLen e.1 e.2.1)) = true := by decide +kernel
set_option maxRecDepth 100000 in
theorem okl_10 : ∀ e ∈ zc_204_10, zOk zr_204 e = true := by decide +kernel
theorem dk_204 : zDk zr_204 = true ∧ zOks zr_204 = true := ⟨List.all_eq_true.mpr (List.forall_mem_append.mpr ⟨dkl_0, List.forall_mem_append.mpr ⟨dkl_1, List.forall_mem_append.mpr ⟨dkl_2, List.forall_mem_append.mpr ⟨dkl_3, List.forall_mem_append.mpr ⟨dkl_4, List.forall_mem_append.mpr ⟨dkl_5, List.forall_mem_append.mpr ⟨dkl_6, List.forall_mem_append.mpr ⟨dkl_7, List.forall_mem_append.mpr ⟨dkl_8, List.forall_mem_append.mpr ⟨dkl_9, dkl_10⟩⟩⟩⟩⟩⟩⟩⟩⟩⟩), List.all_eq_true.mpr (List.forall_mem_append.mpr ⟨okl_0, List.forall_mem_append.mpr ⟨okl_1, List.forall_mem_append.mpr ⟨okl_2, List.forall_mem_append.mpr ⟨okl_3, List.forall_mem_append.mpr ⟨okl_4, List.forall_mem_append.mpr ⟨okl_5, List.forall_mem_append.mpr ⟨okl_6, List.forall_mem_append.mpr ⟨okl_7, List.forall_mem_append.mpr ⟨okl_8, List.forall_mem_append.mpr ⟨okl_9, okl_10⟩⟩⟩⟩⟩⟩⟩⟩⟩⟩)⟩
theorem dkg_0 : ∀ t ∈ zTg_0, zDk t = true ∧ zOks t = true := List.forall_mem_cons.mpr ⟨dk_0, List.forall_mem_cons.mpr ⟨dk_1, List.forall_mem_cons.mpr ⟨dk_2, List.forall_mem_cons.mpr ⟨dk_3, List.forall_mem_cons.mpr ⟨dk_4, List.forall_mem_cons.mpr ⟨dk_5, List.forall_mem_cons.mpr ⟨dk_6, List.forall_mem_cons.mpr ⟨dk_7, List.forall_mem_cons.mpr ⟨dk_8, List.forall_mem_cons.mpr ⟨dk_9, List.forall_mem_cons.mpr ⟨dk_10, List.forall_mem_cons.mpr ⟨dk_11, List.forall_mem_cons.mpr ⟨dk_12, List.forall_mem_cons.mpr ⟨dk_13, List.forall_mem_cons.mpr ⟨dk_14, List.forall_mem_cons.mpr ⟨dk_15, List.forall_mem_cons.mpr ⟨dk_16, List.forall_mem_cons.mpr ⟨dk_17, List.forall_mem_cons.mpr ⟨dk_18, List.forall_mem_cons.mpr ⟨dk_19, fun _ h => absurd h List.not_mem_nil⟩⟩⟩⟩⟩⟩⟩⟩⟩⟩⟩⟩⟩⟩⟩⟩⟩⟩⟩⟩
theorem dkg_1 : ∀ t ∈ zTg_1, zDk t = true ∧ zOks t = true := List.forall_mem_cons.mpr ⟨dk_20, List.forall_mem_cons.mpr ⟨dk_21, List.forall_mem_cons.mpr ⟨dk_22, List.forall_mem_cons.mpr ⟨dk_23, List.forall_mem_cons.mpr ⟨dk_24, List.forall_mem_cons.mpr ⟨dk_25, List.forall_mem_cons.mpr ⟨dk_26, List.forall_mem_cons.mpr ⟨dk_27, List.forall_mem_cons.mpr ⟨dk_28, List.forall_mem_cons.mpr ⟨dk_29, List.forall_mem_cons.mpr ⟨dk_30, List.forall_mem_cons.mpr ⟨dk_31, List.forall_mem_cons.mpr ⟨dk_32, List.forall_mem_cons.mpr ⟨dk_33, List.forall_mem_cons.mpr ⟨dk_34, List.forall_mem_cons.mpr ⟨dk_35, List.forall_mem_cons.mpr ⟨dk_36, List.forall_mem_cons.mpr ⟨dk_37, List.forall_mem_cons.mpr ⟨dk_38, List.forall_mem_cons.mpr ⟨dk_39, fun _ h => absurd h List.not_mem_nil⟩⟩⟩⟩⟩⟩⟩⟩⟩⟩⟩⟩⟩⟩⟩⟩⟩⟩⟩⟩
theorem dkg_2 : ∀ t ∈ zTg_2, zDk t = true ∧ zOks t = true := List.forall_mem_cons.mpr ⟨dk_40, List.forall_mem_cons.mpr ⟨dk_41, List.forall_mem_cons.mpr ⟨dk_42, List.forall_mem_cons.mpr ⟨dk_43, List.forall_mem_cons.mpr ⟨dk_44, List.forall_mem_cons.mpr ⟨dk_45, List.forall_mem_cons.mpr ⟨dk_46, List.forall_mem_cons.mpr ⟨dk_47, List.forall_mem_cons.mpr ⟨dk_48, List.forall_mem_cons.mpr ⟨dk_49, List.forall_mem_cons.mpr ⟨dk_50, List.forall_mem_cons.mpr ⟨dk_51, List.forall_mem_cons.mpr ⟨dk_52, List.forall_mem_cons.mpr ⟨dk_53, List.forall_mem_cons.mpr ⟨dk_54, List.forall_mem_cons.mpr ⟨dk_55, List.forall_mem_cons.mpr ⟨dk_56, List.forall_mem_cons.mpr ⟨dk_57, List.forall_mem_cons.mpr ⟨dk_58, List.forall_mem_cons.mpr ⟨dk_59, fun _ h => absurd h List.not_mem_nil⟩⟩⟩⟩⟩⟩⟩⟩⟩⟩⟩⟩⟩⟩⟩⟩⟩⟩⟩⟩
theorem dkg_3 : ∀ t ∈ zTg_3, zDk t = true ∧ zOks t = true := List.forall_mem_cons.mpr ⟨dk_60, List.forall_mem_cons.mpr ⟨dk_61, List.forall_mem_cons.mpr ⟨dk_62, List.forall_mem_cons.mpr ⟨dk_63, List.forall_mem_cons.mpr ⟨dk_64, List.forall_mem_cons.mpr ⟨dk_65, List.forall_mem_cons.mpr ⟨dk_66, List.forall_mem_cons.mpr ⟨dk_67, List.forall_mem_cons.mpr ⟨dk_68, List.forall_mem_cons.mpr ⟨dk_69, List.forall_mem_cons.mpr ⟨dk_70, List.forall_mem_cons.mpr ⟨dk_71, List.forall_mem_cons.mpr ⟨dk_72, List.forall_mem_cons.mpr ⟨dk_73, List.forall_mem_cons.mpr ⟨dk_74, List.forall_mem_cons.mpr ⟨dk_75, List.forall_mem_cons.mpr ⟨dk_76, List.forall_mem_cons.mpr ⟨dk_77, List.forall_mem_cons.mpr ⟨dk_78, List.forall_mem_cons.mpr ⟨dk_79, fun _ h => absurd h List.not_mem_nil⟩⟩⟩⟩⟩⟩⟩⟩⟩⟩⟩⟩⟩⟩⟩⟩⟩⟩⟩⟩
theorem dkg_4 : ∀ t ∈ zTg_4, zDk t = true ∧ zOks t = true := List.forall_mem_cons.mpr ⟨dk_80, List.forall_mem_cons.mpr ⟨dk_81, List.forall_mem_cons.mpr ⟨dk_82, List.forall_mem_cons.mpr ⟨dk_83, List.forall_mem_cons.mpr ⟨dk_84, List.forall_mem_cons.mpr ⟨dk_85, List.forall_mem_cons.mpr ⟨dk_86, List.forall_mem_cons.mpr ⟨dk_87, List.forall_mem_cons.mpr ⟨dk_88, List.forall_mem_cons.mpr ⟨dk_89, List.forall_mem_cons.mpr ⟨dk_90, List.forall_mem_cons.mpr ⟨dk_91, List.forall_mem_cons.mpr ⟨dk_92, List.forall_mem_cons.mpr ⟨dk_93, List.forall_mem_cons.mpr ⟨dk_94, List.forall_mem_cons.mpr ⟨dk_95, List.forall_mem_cons.mpr ⟨dk_96, List.forall_mem_cons.mpr ⟨dk_97, List.forall_mem_cons.mpr ⟨dk_98, List.forall_mem_cons.mpr ⟨dk_99, fun _ h => absurd h List.not_mem_nil⟩⟩⟩⟩⟩⟩⟩⟩⟩⟩⟩⟩⟩⟩⟩⟩⟩⟩⟩⟩
theorem dkg_5 : ∀ t ∈ zTg_5, zDk t = true ∧ zOks t = true := List.forall_mem_cons.mpr ⟨dk_100, List.forall_mem_cons.mpr ⟨dk_101, List.forall_mem_cons.mpr ⟨dk_102, List.forall_mem_cons.mpr ⟨dk_103, List.forall_mem_cons.mpr ⟨dk_104, List.forall_mem_cons.mpr ⟨dk_105, List.forall_mem_cons.mpr ⟨dk_106, List.forall_mem_cons.mpr ⟨dk_107, List.forall_mem_cons.mpr ⟨dk_108, List.forall_mem_cons.mpr ⟨dk_109, List.forall_mem_cons.mpr ⟨dk_110, List.forall_mem_cons.mpr ⟨dk_111, List.forall_mem_cons.mpr ⟨dk_112, List.forall_mem_cons.mpr ⟨dk_113, List.forall_mem_cons.mpr ⟨dk_114, List.forall_mem_cons.mpr ⟨dk_115, List.forall_mem_cons.mpr ⟨dk_116, List.forall_mem_cons.mpr ⟨dk_117, List.forall_mem_cons.mpr ⟨dk_118, List.forall_mem_cons.mpr ⟨dk_119, fun _ h => absurd h List.not_mem_nil⟩⟩⟩⟩⟩⟩⟩⟩⟩⟩⟩⟩⟩⟩⟩⟩⟩⟩⟩⟩
theorem dkg_6 : ∀ t ∈ zTg_6, zDk t = true ∧ zOks t = true := List.forall_mem_cons.mpr ⟨dk_120, List.forall_mem_cons.mpr ⟨dk_121, List.forall_mem_cons.mpr ⟨dk_122, List.forall_mem_cons.mpr ⟨dk_123, List.forall_mem_cons.mpr ⟨dk_124, List.forall_mem_cons.mpr ⟨dk_125, List.forall_mem_cons.mpr ⟨dk_126, List.forall_mem_cons.mpr ⟨dk_127, List.forall_mem_cons.mpr ⟨dk_128, List.forall_mem_cons.mpr ⟨dk_129, List.forall_mem_cons.mpr ⟨dk_130, List.forall_mem_cons.mpr ⟨dk_131, List.forall_mem_cons.mpr ⟨dk_132, List.forall_mem_cons.mpr ⟨dk_133, List.forall_mem_cons.mpr ⟨dk_134, List.forall_mem_cons.mpr ⟨dk_135, List.forall_mem_cons.mpr ⟨dk_136, List.forall_mem_cons.mpr ⟨dk_137, List.forall_mem_cons.mpr ⟨dk_138, List.forall_mem_cons.mpr ⟨dk_139, fun _ h => absurd h List.not_mem_nil⟩⟩⟩⟩⟩⟩⟩⟩⟩⟩⟩⟩⟩⟩⟩⟩⟩⟩⟩⟩
theorem dkg_7 : ∀ t ∈ zTg_7, zDk t = true ∧ zOks t = true := List.forall_mem_cons.mpr ⟨dk_140, List.forall_mem_cons.mpr ⟨dk_141, List.forall_mem_cons.mpr ⟨dk_142, List.forall_mem_cons.mpr ⟨dk_143, List.forall_mem_cons.mpr ⟨dk_144, List.forall_mem_cons.mpr ⟨dk_145, List.forall_mem_cons.mpr ⟨dk_146, List.forall_mem_cons.mpr ⟨dk_147, List.forall_mem_cons.mpr ⟨dk_148, List.forall_mem_cons.mpr ⟨dk_149, List.forall_mem_cons.mpr ⟨dk_150, List.forall_mem_cons.mpr ⟨dk_151, List.forall_mem_cons.mpr ⟨dk_152, List.forall_mem_cons.mpr ⟨dk_153, List.forall_mem_cons.mpr ⟨dk_154, List.forall_mem_cons.mpr ⟨dk_155, List.forall_mem_cons.mpr ⟨dk_156, List.forall_mem_cons.mpr ⟨dk_157, List.forall_mem_cons.mpr ⟨dk_158, List.forall_mem_cons.mpr ⟨dk_159, fun _ h => absurd h List.not_mem_nil⟩⟩⟩⟩⟩⟩⟩⟩⟩⟩⟩⟩⟩⟩⟩⟩⟩⟩⟩⟩
theorem dkg_8 : ∀ t ∈ zTg_8, zDk t = true ∧ zOks t = true := List.forall_mem_cons.mpr ⟨dk_160, List.forall_mem_cons.mpr ⟨dk_161, List.forall_mem_cons.mpr ⟨dk_162, List.forall_mem_cons.mpr ⟨dk_163, List.forall_mem_cons.mpr ⟨dk_164, List.forall_mem_cons.mpr ⟨dk_165, List.forall_mem_cons.mpr ⟨dk_166, List.forall_mem_cons.mpr ⟨dk_167, List.forall_mem_cons.mpr ⟨dk_168, List.forall_mem_cons.mpr ⟨dk_169, List.forall_mem_cons.mpr ⟨dk_170, List.forall_mem_cons.mpr ⟨dk_171, List.forall_mem_cons.mpr ⟨dk_172, List.forall_mem_cons.mpr ⟨dk_173, List.forall_mem_cons.mpr ⟨dk_174, List.forall_mem_cons.mpr ⟨dk_175, List.forall_mem_cons.mpr ⟨dk_176, List.forall_mem_cons.mpr ⟨dk_177, List.forall_mem_cons.mpr ⟨dk_178, List.forall_mem_cons.mpr ⟨dk_179, fun _ h => absurd h List.not_mem_nil⟩⟩⟩⟩⟩⟩⟩⟩⟩⟩⟩⟩⟩⟩⟩⟩⟩⟩⟩⟩
theorem dkg_9 : ∀ t ∈ zTg_9, zDk t = true ∧ zOks t = true := List.forall_mem_cons.mpr ⟨dk_180, List.forall_mem_cons.mpr ⟨dk_181, List.forall_mem_cons.mpr ⟨dk_182, List.forall_mem_cons.mpr ⟨dk_183, List.forall_mem_cons.mpr ⟨dk_184, List.forall_mem_cons.mpr ⟨dk_185, List.forall_mem_cons.mpr ⟨dk_186, List.forall_mem_cons.mpr ⟨dk_187, List.forall_mem_cons.mpr ⟨dk_188, List.forall_mem_cons.mpr ⟨dk_189, List.forall_mem_cons.mpr ⟨dk_190, List.forall_mem_cons.mpr ⟨dk_191, List.forall_mem_cons.mpr ⟨dk_192, List.forall_mem_cons.mpr ⟨dk_193, List.forall_mem_cons.mpr ⟨dk_194, List.forall_mem_cons.mpr ⟨dk_195, List.forall_mem_cons.mpr ⟨dk_196, List.forall_mem_cons.mpr ⟨dk_197, List.forall_mem_cons.mpr ⟨dk_198, List.forall_mem_cons.mpr ⟨dk_199, fun _ h => absurd h List.not_mem_nil⟩⟩⟩⟩⟩⟩⟩⟩⟩⟩⟩⟩⟩⟩⟩⟩⟩⟩⟩⟩
theorem dkg_10 : ∀ t ∈ zTg_10, zDk t = true ∧ zOks t = true := List.forall_mem_cons.mpr ⟨dk_200, List.forall_mem_cons.mpr ⟨dk_201, List.forall_mem_cons.mpr ⟨dk_202, List.forall_mem_cons.mpr ⟨dk_203, List.forall_mem_cons.mpr ⟨dk_204, fun _ h => absurd h List.not_mem_nil⟩⟩⟩⟩⟩
theorem zT_ok : ∀ t ∈ zT, zDk t = true ∧ zOks t = true := List.forall_mem_append.mpr ⟨dkg_0, List.forall_mem_append.mpr ⟨dkg_1, List.forall_mem_append.mpr ⟨dkg_2, List.forall_mem_append.mpr ⟨dkg_3, List.forall_mem_append.mpr ⟨dkg_4, List.forall_mem_append.mpr ⟨dkg_5, List.forall_mem_append.mpr ⟨dkg_6, List.forall_mem_append.mpr ⟨dkg_7, List.forall_mem_append.mpr ⟨dkg_8, List.forall_mem_append.mpr ⟨dkg_9, dkg_10⟩⟩⟩⟩⟩⟩⟩⟩⟩⟩
theorem mE_mem {m pc : Nat} {r : Instr × Nat × Nat × Int} (h : zcode m pc = some r) : mE m ∈ zT := by
  unfold zcode mCode mE at h
  unfold mE
  rw [List.getD_eq_getElem?_getD] at h ⊢
  cases hm : zT[m]? with
  | none => rw [hm] at h; cases h
  | some t => exact List.mem_of_getElem? hm
theorem zFind_mem : ∀ {l : List zE} {pc : Nat} {r : Instr × Nat × Nat × Int}, zFind l pc = some r → (pc, r) ∈ l
  | [], _, _, h => by cases h
  | e :: t, pc, r, h => by
    unfold zFind at h
    by_cases he : e.1 = pc
    · rw [if_pos he] at h
      cases h
      subst he
      exact List.mem_cons_self
    · rw [if_neg he] at h
      exact List.mem_cons_of_mem _ (zFind_mem h)
theorem zcode_dec {m pc : Nat} {r : Instr × Nat × Nat × Int} (h : zcode m pc = some r) : decode (mB m) pc = .ok (r.1, zLen pc r.1) := by
  have h1 := (zT_ok _ (mE_mem h)).1
  have h2 := List.all_eq_true.mp h1 _ (zFind_mem h)
  exact of_decide_eq_true h2
theorem zcode_ok {m pc : Nat} {r : Instr × Nat × Nat × Int} (h : zcode m pc = some r) : zOk (mE m) (pc, r) = true :=
  List.all_eq_true.mp (zT_ok _ (mE_mem h)).2 _ (zFind_mem h)
