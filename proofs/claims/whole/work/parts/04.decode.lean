set_option maxRecDepth 100000 in
theorem dk_82 : zDk zr_82 = true ∧ zOks zr_82 = true := ⟨by decide +kernel, by decide +kernel⟩
set_option maxRecDepth 100000 in
theorem dk_83 : zDk zr_83 = true ∧ zOks zr_83 = true := ⟨by decide +kernel, by decide +kernel⟩
set_option maxRecDepth 100000 in
theorem dk_84 : zDk zr_84 = true ∧ zOks zr_84 = true := ⟨by decide +kernel, by decide +kernel⟩
set_option maxRecDepth 100000 in
theorem dk_85 : zDk zr_85 = true ∧ zOks zr_85 = true := ⟨by decide +kernel, by decide +kernel⟩
set_option maxRecDepth 100000 in
theorem dk_86 : zDk zr_86 = true ∧ zOks zr_86 = true := ⟨by decide +kernel, by decide +kernel⟩
set_option maxRecDepth 100000 in
theorem dk_87 : zDk zr_87 = true ∧ zOks zr_87 = true := ⟨by decide +kernel, by decide +kernel⟩
set_option maxRecDepth 100000 in
theorem dk_88 : zDk zr_88 = true ∧ zOks zr_88 = true := ⟨by decide +kernel, by decide +kernel⟩
set_option maxRecDepth 100000 in
theorem dk_89 : zDk zr_89 = true ∧ zOks zr_89 = true := ⟨by decide +kernel, by decide +kernel⟩
set_option maxRecDepth 100000 in
theorem dk_90 : zDk zr_90 = true ∧ zOks zr_90 = true := ⟨by decide +kernel, by decide +kernel⟩
set_option maxRecDepth 100000 in
theorem dk_91 : zDk zr_91 = true ∧ zOks zr_91 = true := ⟨by decide +kernel, by decide +kernel⟩
set_option maxRecDepth 100000 in
theorem dk_92 : zDk zr_92 = true ∧ zOks zr_92 = true := ⟨by decide +kernel, by decide +kernel⟩
set_option maxRecDepth 100000 in
theorem dk_93 : zDk zr_93 = true ∧ zOks zr_93 = true := ⟨by decide +kernel, by decide +kernel⟩
set_option maxRecDepth 100000 in
theorem dk_94 : zDk zr_94 = true ∧ zOks zr_94 = true := ⟨by decide +kernel, by decide +kernel⟩
set_option maxRecDepth 100000 in
theorem dk_95 : zDk zr_95 = true ∧ zOks zr_95 = true := ⟨by decide +kernel, by decide +kernel⟩
set_option maxRecDepth 100000 in
theorem dk_96 : zDk zr_96 = true ∧ zOks zr_96 = true := ⟨by decide +kernel, by decide +kernel⟩
set_option maxRecDepth 100000 in
theorem dk_97 : zDk zr_97 = true ∧ zOks zr_97 = true := ⟨by decide +kernel, by decide +kernel⟩
set_option maxRecDepth 100000 in
theorem dk_98 : zDk zr_98 = true ∧ zOks zr_98 = true := ⟨by decide +kernel, by decide +kernel⟩
set_option maxRecDepth 100000 in
theorem dk_99 : zDk zr_99 = true ∧ zOks zr_99 = true := ⟨by decide +kernel, by decide +kernel⟩
set_option maxRecDepth 100000 in
theorem dk_100 : zDk zr_100 = true ∧ zOks zr_100 = true := ⟨by decide +kernel, by decide +kernel⟩
set_option maxRecDepth 100000 in
theorem dk_101 : zDk zr_101 = true ∧ zOks zr_101 = true := ⟨by decide +kernel, by decide +kernel⟩
set_option maxRecDepth 100000 in
theorem dk_102 : zDk zr_102 = true ∧ zOks zr_102 = true := ⟨by decide +kernel, by decide +kernel⟩
set_option maxRecDepth 100000 in
theorem dk_103 : zDk zr_103 = true ∧ zOks zr_103 = true := ⟨by decide +kernel, by decide +kernel⟩
set_option maxRecDepth 100000 in
theorem dk_104 : zDk zr_104 = true ∧ zOks zr_104 = true := ⟨by decide +kernel, by decide +kernel⟩
set_option maxRecDepth 100000 in
theorem dk_105 : zDk zr_105 = true ∧ zOks zr_105 = true := ⟨by decide +kernel, by decide +kernel⟩
set_option maxRecDepth 100000 in
theorem dk_106 : zDk zr_106 = true ∧ zOks zr_106 = true := ⟨by decide +kernel, by decide +kernel⟩
set_option maxRecDepth 100000 in
theorem dk_107 : zDk zr_107 = true ∧ zOks zr_107 = true := ⟨by decide +kernel, by decide +kernel⟩
set_option maxRecDepth 100000 in
theorem dk_108 : zDk zr_108 = true ∧ zOks zr_108 = true := ⟨by decide +kernel, by decide +kernel⟩
set_option maxRecDepth 100000 in
theorem dk_109 : zDk zr_109 = true ∧ zOks zr_109 = true := ⟨by decide +kernel, by decide +kernel⟩
set_option maxRecDepth 100000 in
theorem dk_110 : zDk zr_110 = true ∧ zOks zr_110 = true := ⟨by decide +kernel, by decide +kernel⟩
set_option maxRecDepth 100000 in
theorem dk_111 : zDk zr_111 = true ∧ zOks zr_111 = true := ⟨by decide +kernel, by decide +kernel⟩
set_option maxRecDepth 100000 in
theorem dk_112 : zDk zr_112 = true ∧ zOks zr_112 = true := ⟨by decide +kernel, by decide +kernel⟩
set_option maxRecDepth 100000 in
theorem dk_113 : zDk zr_113 = true ∧ zOks zr_113 = true := ⟨by decide +kernel, by decide +kernel⟩
set_option maxRecDepth 100000 in
theorem dk_114 : zDk zr_114 = true ∧ zOks zr_114 = true := ⟨by decide +kernel, by decide +kernel⟩
set_option maxRecDepth 100000 in
theorem dk_115 : zDk zr_115 = true ∧ zOks zr_115 = true := ⟨by decide +kernel, by decide +kernel⟩
set_option maxRecDepth 100000 in
theorem dk_116 : zDk zr_116 = true ∧ zOks zr_116 = true := ⟨by decide +kernel, by decide +kernel⟩
set_option maxRecDepth 100000 in
theorem dk_117 : zDk zr_117 = true ∧ zOks zr_117 = true := ⟨by decide +kernel, by decide +kernel⟩
set_option maxRecDepth 100000 in
theorem dk_118 : zDk zr_118 = true ∧ zOks zr_118 = true := ⟨by decide +kernel, by decide +kernel⟩
set_option maxRecDepth 100000 in
theorem dk_119 : zDk zr_119 = true ∧ zOks zr_119 = true := ⟨by decide +kernel, by decide +kernel⟩
set_option maxRecDepth 100000 in
theorem dk_120 : zDk zr_120 = true ∧ zOks zr_120 = true := ⟨by decide +kernel, by decide +kernel⟩
set_option maxRecDepth 100000 in
theorem dk_121 : zDk zr_121 = true ∧ zOks zr_121 = true := ⟨by decide +kernel, by decide +kernel⟩
set_option maxRecDepth 100000 in
theorem dk_122 : zDk zr_122 = true ∧ zOks zr_122 = true := ⟨by decide +kernel, by decide +kernel⟩
set_option maxRecDepth 100000 in
theorem dk_123 : zDk zr_123 = true ∧ zOks zr_123 = true := ⟨by decide +kernel, by decide +kernel⟩
set_option maxRecDepth 100000 in
theorem dk_124 : zDk zr_124 = true ∧ zOks zr_124 = true := ⟨by decide +kernel, by decide +kernel⟩
set_option maxRecDepth 100000 in
theorem dk_125 : zDk zr_125 = true ∧ zOks zr_125 = true := ⟨by decide +kernel, by decide +kernel⟩
set_option maxRecDepth 100000 in
theorem dk_126 : zDk zr_126 = true ∧ zOks zr_126 = true := ⟨by decide +kernel, by decide +kernel⟩
set_option maxRecDepth 100000 in
theorem dk_127 : zDk zr_127 = true ∧ zOks zr_127 = true := ⟨by decide +kernel, by decide +kernel⟩
set_option maxRecDepth 100000 in
theorem dk_128 : zDk zr_128 = true ∧ zOks zr_128 = true := ⟨by decide +kernel, by decide +kernel⟩
set_option maxRecDepth 100000 in
theorem dk_129 : zDk zr_129 = true ∧ zOks zr_129 = true := ⟨by decide +kernel, by decide +kernel⟩
set_option maxRecDepth 100000 in
theorem dk_130 : zDk zr_130 = true ∧ zOks zr_130 = true := ⟨by decide +kernel, by decide +kernel⟩
set_option maxRecDepth 100000 in
theorem dk_131 : zDk zr_131 = true ∧ zOks zr_131 = true := ⟨by decide +kernel, by decide +kernel⟩
set_option maxRecDepth 100000 in
theorem dk_132 : zDk zr_132 = true ∧ zOks zr_132 = true := ⟨by decide +kernel, by decide +kernel⟩
set_option maxRecDepth 100000 in
theorem dk_133 : zDk zr_133 = true ∧ zOks zr_133 = true := ⟨by decide +kernel, by decide +kernel⟩
set_option maxRecDepth 100000 in
theorem dk_134 : zDk zr_134 = true ∧ zOks zr_134 = true := ⟨by decide +kernel, by decide +kernel⟩
set_option maxRecDepth 100000 in
theorem dk_135 : zDk zr_135 = true ∧ zOks zr_135 = true := ⟨by decide +kernel, by decide +kernel⟩
set_option maxRecDepth 100000 in
theorem dk_136 : zDk zr_136 = true ∧ zOks zr_136 = true := ⟨by decide +kernel, by decide +kernel⟩
set_option maxRecDepth 100000 in
theorem dk_137 : zDk zr_137 = true ∧ zOks zr_137 = true := ⟨by decide +kernel, by decide +kernel⟩
set_option maxRecDepth 100000 in
theorem dk_138 : zDk zr_138 = true ∧ zOks zr_138 = true := ⟨by decide +kernel, by decide +kernel⟩
set_option maxRecDepth 100000 in
theorem dk_139 : zDk zr_139 = true ∧ zOks zr_139 = true := ⟨by decide +kernel, by decide +kernel⟩
set_option maxRecDepth 100000 in
theorem dk_140 : zDk zr_140 = true ∧ zOks zr_140 = true := ⟨by decide +kernel, by decide +kernel⟩
set_option maxRecDepth 100000 in
theorem dk_141 : zDk zr_141 = true ∧ zOks zr_141 = true := ⟨by decide +kernel, by decide +kernel⟩
set_option maxRecDepth 100000 in
theorem dk_142 : zDk zr_142 = true ∧ zOks zr_142 = true := ⟨by decide +kernel, by decide +kernel⟩
set_option maxRecDepth 100000 in
theorem dk_143 : zDk zr_143 = true ∧ zOks zr_143 = true := ⟨by decide +kernel, by decide +kernel⟩
set_option maxRecDepth 100000 in
theorem dk_144 : zDk zr_144 = true ∧ zOks zr_144 = true := ⟨by decide +kernel, by decide +kernel⟩
set_option maxRecDepth 100000 in
theorem dk_145 : zDk zr_145 = true ∧ zOks zr_145 = true := ⟨by decide +kernel, by decide +kernel⟩
set_option maxRecDepth 100000 in
theorem dk_146 : zDk zr_146 = true ∧ zOks zr_146 = true := ⟨by decide +kernel, by decide +kernel⟩
set_option maxRecDepth 100000 in
theorem dk_147 : zDk zr_147 = true ∧ zOks zr_147 = true := ⟨by decide +kernel, by decide +kernel⟩
set_option maxRecDepth 100000 in
theorem dk_148 : zDk zr_148 = true ∧ zOks zr_148 = true := ⟨by decide +kernel, by decide +kernel⟩
set_option maxRecDepth 100000 in
theorem dk_149 : zDk zr_149 = true ∧ zOks zr_149 = true := ⟨by decide +kernel, by decide +kernel⟩
set_option maxRecDepth 100000 in
theorem dk_150 : zDk zr_150 = true ∧ zOks zr_150 = true := ⟨by decide +kernel, by decide +kernel⟩
set_option maxRecDepth 100000 in
theorem dk_151 : zDk zr_151 = true ∧ zOks zr_151 = true := ⟨by decide +kernel, by decide +kernel⟩
set_option maxRecDepth 100000 in
theorem dk_152 : zDk zr_152 = true ∧ zOks zr_152 = true := ⟨by decide +kernel, by decide +kernel⟩
