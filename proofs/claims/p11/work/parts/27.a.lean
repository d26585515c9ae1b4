theorem mt_a_0 : b_mok1 mm_0 = true := by decide +kernel
theorem mt_a_1 : b_mok1 mm_1 = true := by decide +kernel
theorem mt_a_2 : b_mok1 mm_2 = true := by decide +kernel
theorem mt_a_3 : b_mok1 mm_3 = true := by decide +kernel
theorem mt_a_4 : b_mok1 mm_4 = true := by decide +kernel
theorem mt_a_5 : b_mok1 mm_5 = true := by decide +kernel
theorem mt_a_6 : b_mok1 mm_6 = true := by decide +kernel
theorem mt_a_7 : b_mok1 mm_7 = true := by decide +kernel
theorem mt_a_8 : b_mok1 mm_8 = true := by decide +kernel
theorem mt_a_9 : b_mok1 mm_9 = true := by decide +kernel
theorem mt_a_10 : b_mok1 mm_10 = true := by decide +kernel
theorem mt_a_11 : b_mok1 mm_11 = true := by decide +kernel
theorem mt_a_12 : b_mok1 mm_12 = true := by decide +kernel
theorem mt_a_13 : b_mok1 mm_13 = true := by decide +kernel
theorem mt_a_14 : b_mok1 mm_14 = true := by decide +kernel
theorem mt_a_15 : b_mok1 mm_15 = true := by decide +kernel
theorem mt_a_16 : b_mok1 mm_16 = true := by decide +kernel
theorem mt_a_17 : b_mok1 mm_17 = true := by decide +kernel
theorem mt_a_18 : b_mok1 mm_18 = true := by decide +kernel
theorem mt_a_19 : b_mok1 mm_19 = true := by decide +kernel
theorem mt_a_20 : b_mok1 mm_20 = true := by decide +kernel
theorem mt_a_21 : b_mok1 mm_21 = true := by decide +kernel
theorem mt_a_22 : b_mok1 mm_22 = true := by decide +kernel
theorem mt_a_23 : b_mok1 mm_23 = true := by decide +kernel
theorem mt_a_24 : b_mok1 mm_24 = true := by decide +kernel
theorem mt_a_25 : b_mok1 mm_25 = true := by decide +kernel
theorem mt_a_26 : b_mok1 mm_26 = true := by decide +kernel
theorem mt_a_27 : b_mok1 mm_27 = true := by decide +kernel
theorem mt_a_28 : b_mok1 mm_28 = true := by decide +kernel
theorem mt_a_29 : b_mok1 mm_29 = true := by decide +kernel
theorem mt_a_30 : b_mok1 mm_30 = true := by decide +kernel
theorem mt_a_31 : b_mok1 mm_31 = true := by decide +kernel
theorem mt_a_32 : b_mok1 mm_32 = true := by decide +kernel
theorem mt_a_33 : b_mok1 mm_33 = true := by decide +kernel
theorem mt_a_34 : b_mok1 mm_34 = true := by decide +kernel
theorem mt_a_35 : b_mok1 mm_35 = true := by decide +kernel
theorem mt_a_36 : b_mok1 mm_36 = true := by decide +kernel
theorem mt_a_37 : b_mok1 mm_37 = true := by decide +kernel
theorem mt_a_38 : b_mok1 mm_38 = true := by decide +kernel
theorem mt_a_39 : b_mok1 mm_39 = true := by decide +kernel
theorem mt_a_40 : b_mok1 mm_40 = true := by decide +kernel
theorem mt_a_41 : b_mok1 mm_41 = true := by decide +kernel
theorem mt_a_42 : b_mok1 mm_42 = true := by decide +kernel
theorem mt_a_43 : b_mok1 mm_43 = true := by decide +kernel
theorem mt_a_44 : b_mok1 mm_44 = true := by decide +kernel
theorem mt_a_45 : b_mok1 mm_45 = true := by decide +kernel
theorem mt_a_46 : b_mok1 mm_46 = true := by decide +kernel
theorem mt_a_47 : b_mok1 mm_47 = true := by decide +kernel
theorem mt_a_48 : b_mok1 mm_48 = true := by decide +kernel
theorem mt_a_49 : b_mok1 mm_49 = true := by decide +kernel
theorem mt_a_50 : b_mok1 mm_50 = true := by decide +kernel
theorem mt_a_51 : b_mok1 mm_51 = true := by decide +kernel
theorem mt_a_52 : b_mok1 mm_52 = true := by decide +kernel
theorem mt_a_53 : b_mok1 mm_53 = true := by decide +kernel
theorem mt_a_54 : b_mok1 mm_54 = true := by decide +kernel
theorem mt_a_55 : b_mok1 mm_55 = true := by decide +kernel
theorem mt_a_56 : b_mok1 mm_56 = true := by decide +kernel
theorem mt_a_57 : b_mok1 mm_57 = true := by decide +kernel
theorem mt_a_58 : b_mok1 mm_58 = true := by decide +kernel
theorem mt_a_59 : b_mok1 mm_59 = true := by decide +kernel
theorem mt_a_60 : b_mok1 mm_60 = true := by decide +kernel
theorem mt_a_61 : b_mok1 mm_61 = true := by decide +kernel
theorem mt_a_62 : b_mok1 mm_62 = true := by decide +kernel
theorem mt_a_63 : b_mok1 mm_63 = true := by decide +kernel
theorem mt_a_64 : b_mok1 mm_64 = true := by decide +kernel
theorem mt_a_65 : b_mok1 mm_65 = true := by decide +kernel
theorem mt_a_66 : b_mok1 mm_66 = true := by decide +kernel
theorem mt_a_67 : b_mok1 mm_67 = true := by decide +kernel
theorem mt_a_68 : b_mok1 mm_68 = true := by decide +kernel
theorem mt_a_69 : b_mok1 mm_69 = true := by decide +kernel
theorem mt_a_70 : b_mok1 mm_70 = true := by decide +kernel
theorem mt_a_71 : b_mok1 mm_71 = true := by decide +kernel
theorem mt_a_72 : b_mok1 mm_72 = true := by decide +kernel
theorem mt_a_73 : b_mok1 mm_73 = true := by decide +kernel
theorem mt_a_74 : b_mok1 mm_74 = true := by decide +kernel
theorem mt_a_75 : b_mok1 mm_75 = true := by decide +kernel
theorem mt_a_76 : b_mok1 mm_76 = true := by decide +kernel
theorem mt_a_77 : b_mok1 mm_77 = true := by decide +kernel
theorem mt_a_78 : b_mok1 mm_78 = true := by decide +kernel
theorem mt_a_79 : b_mok1 mm_79 = true := by decide +kernel
theorem mt_a_80 : b_mok1 mm_80 = true := by decide +kernel
theorem mt_a_81 : b_mok1 mm_81 = true := by decide +kernel
theorem mt_a_82 : b_mok1 mm_82 = true := by decide +kernel
theorem mt_a_83 : b_mok1 mm_83 = true := by decide +kernel
theorem mt_a_84 : b_mok1 mm_84 = true := by decide +kernel
theorem mt_a_85 : b_mok1 mm_85 = true := by decide +kernel
theorem mt_a_86 : b_mok1 mm_86 = true := by decide +kernel
theorem mt_a_87 : b_mok1 mm_87 = true := by decide +kernel
theorem mt_a_88 : b_mok1 mm_88 = true := by decide +kernel
theorem mt_a_89 : b_mok1 mm_89 = true := by decide +kernel
theorem mt_a_90 : b_mok1 mm_90 = true := by decide +kernel
theorem mt_a_91 : b_mok1 mm_91 = true := by decide +kernel
theorem mt_a_92 : b_mok1 mm_92 = true := by decide +kernel
theorem mt_a_93 : b_mok1 mm_93 = true := by decide +kernel
theorem mt_a_94 : b_mok1 mm_94 = true := by decide +kernel
theorem mt_a_95 : b_mok1 mm_95 = true := by decide +kernel
theorem mt_a_96 : b_mok1 mm_96 = true := by decide +kernel
theorem mt_a_97 : b_mok1 mm_97 = true := by decide +kernel
theorem mt_a_98 : b_mok1 mm_98 = true := by decide +kernel
theorem mt_a_99 : b_mok1 mm_99 = true := by decide +kernel
theorem mt_a_100 : b_mok1 mm_100 = true := by decide +kernel
theorem mt_a_101 : b_mok1 mm_101 = true := by decide +kernel
theorem mt_a_102 : b_mok1 mm_102 = true := by decide +kernel
theorem mt_a_103 : b_mok1 mm_103 = true := by decide +kernel
theorem mt_a_104 : b_mok1 mm_104 = true := by decide +kernel
theorem mt_a_105 : b_mok1 mm_105 = true := by decide +kernel
theorem mt_a_106 : b_mok1 mm_106 = true := by decide +kernel
theorem mt_a_107 : b_mok1 mm_107 = true := by decide +kernel
theorem mt_a_108 : b_mok1 mm_108 = true := by decide +kernel
theorem mt_a_109 : b_mok1 mm_109 = true := by decide +kernel
theorem mt_a_110 : b_mok1 mm_110 = true := by decide +kernel
theorem mt_a_111 : b_mok1 mm_111 = true := by decide +kernel
theorem mt_a_112 : b_mok1 mm_112 = true := by decide +kernel
theorem mt_a_113 : b_mok1 mm_113 = true := by decide +kernel
theorem mt_a_114 : b_mok1 mm_114 = true := by decide +kernel
theorem mt_a_115 : b_mok1 mm_115 = true := by decide +kernel
theorem mt_a_116 : b_mok1 mm_116 = true := by decide +kernel
theorem mt_a_117 : b_mok1 mm_117 = true := by decide +kernel
theorem mt_a_118 : b_mok1 mm_118 = true := by decide +kernel
theorem mt_a_119 : b_mok1 mm_119 = true := by decide +kernel
theorem mt_a_120 : b_mok1 mm_120 = true := by decide +kernel
theorem mt_a_121 : b_mok1 mm_121 = true := by decide +kernel
theorem mt_a_122 : b_mok1 mm_122 = true := by decide +kernel
theorem mt_a_123 : b_mok1 mm_123 = true := by decide +kernel
theorem mt_a_124 : b_mok1 mm_124 = true := by decide +kernel
theorem mt_a_125 : b_mok1 mm_125 = true := by decide +kernel
theorem mt_a_126 : b_mok1 mm_126 = true := by decide +kernel
theorem mt_a_127 : b_mok1 mm_127 = true := by decide +kernel
theorem mt_a_128 : b_mok1 mm_128 = true := by decide +kernel
theorem mt_a_129 : b_mok1 mm_129 = true := by decide +kernel
theorem mt_a_130 : b_mok1 mm_130 = true := by decide +kernel
theorem mt_a_131 : b_mok1 mm_131 = true := by decide +kernel
theorem mt_a_132 : b_mok1 mm_132 = true := by decide +kernel
theorem mt_a_133 : b_mok1 mm_133 = true := by decide +kernel
theorem mt_a_134 : b_mok1 mm_134 = true := by decide +kernel
theorem mt_a_135 : b_mok1 mm_135 = true := by decide +kernel
theorem mt_a_136 : b_mok1 mm_136 = true := by decide +kernel
theorem mt_a_137 : b_mok1 mm_137 = true := by decide +kernel
theorem mt_a_138 : b_mok1 mm_138 = true := by decide +kernel
theorem mt_a_139 : b_mok1 mm_139 = true := by decide +kernel
theorem mt_a_140 : b_mok1 mm_140 = true := by decide +kernel
theorem mt_a_141 : b_mok1 mm_141 = true := by decide +kernel
theorem mt_a_142 : b_mok1 mm_142 = true := by decide +kernel
theorem mt_a_143 : b_mok1 mm_143 = true := by decide +kernel
theorem mt_a_144 : b_mok1 mm_144 = true := by decide +kernel
theorem mt_a_145 : b_mok1 mm_145 = true := by decide +kernel
theorem mt_a_146 : b_mok1 mm_146 = true := by decide +kernel
theorem mt_a_147 : b_mok1 mm_147 = true := by decide +kernel
theorem mt_a_148 : b_mok1 mm_148 = true := by decide +kernel
theorem mt_a_149 : b_mok1 mm_149 = true := by decide +kernel
theorem mt_a_150 : b_mok1 mm_150 = true := by decide +kernel
theorem mt_a_151 : b_mok1 mm_151 = true := by decide +kernel
theorem mt_a_152 : b_mok1 mm_152 = true := by decide +kernel
theorem mt_a_153 : b_mok1 mm_153 = true := by decide +kernel
theorem mt_a_154 : b_mok1 mm_154 = true := by decide +kernel
theorem mt_a_155 : b_mok1 mm_155 = true := by decide +kernel
theorem mt_a_156 : b_mok1 mm_156 = true := by decide +kernel
theorem mt_a_157 : b_mok1 mm_157 = true := by decide +kernel
theorem mt_a_158 : b_mok1 mm_158 = true := by decide +kernel
theorem mt_a_159 : b_mok1 mm_159 = true := by decide +kernel
theorem mt_a_160 : b_mok1 mm_160 = true := by decide +kernel
theorem mt_a_161 : b_mok1 mm_161 = true := by decide +kernel
theorem mt_a_162 : b_mok1 mm_162 = true := by decide +kernel
theorem mt_a_163 : b_mok1 mm_163 = true := by decide +kernel
theorem mt_a_164 : b_mok1 mm_164 = true := by decide +kernel
theorem mt_a_165 : b_mok1 mm_165 = true := by decide +kernel
theorem mt_a_166 : b_mok1 mm_166 = true := by decide +kernel
theorem mt_a_167 : b_mok1 mm_167 = true := by decide +kernel
theorem mt_a_168 : b_mok1 mm_168 = true := by decide +kernel
theorem mt_a_169 : b_mok1 mm_169 = true := by decide +kernel
theorem mt_a_170 : b_mok1 mm_170 = true := by decide +kernel
theorem mt_a_171 : b_mok1 mm_171 = true := by decide +kernel
theorem mt_a_172 : b_mok1 mm_172 = true := by decide +kernel
theorem mt_a_173 : b_mok1 mm_173 = true := by decide +kernel
theorem mt_a_174 : b_mok1 mm_174 = true := by decide +kernel
theorem mt_a_175 : b_mok1 mm_175 = true := by decide +kernel
theorem mt_a_176 : b_mok1 mm_176 = true := by decide +kernel
theorem mt_a_177 : b_mok1 mm_177 = true := by decide +kernel
theorem mt_a_178 : b_mok1 mm_178 = true := by decide +kernel
theorem mt_a_179 : b_mok1 mm_179 = true := by decide +kernel
theorem mt_a_180 : b_mok1 mm_180 = true := by decide +kernel
theorem mt_a_181 : b_mok1 mm_181 = true := by decide +kernel
theorem mt_a_182 : b_mok1 mm_182 = true := by decide +kernel
theorem mt_a_183 : b_mok1 mm_183 = true := by decide +kernel
theorem mt_a_184 : b_mok1 mm_184 = true := by decide +kernel
theorem mt_a_185 : b_mok1 mm_185 = true := by decide +kernel
theorem mt_a_186 : b_mok1 mm_186 = true := by decide +kernel
theorem mt_a_187 : b_mok1 mm_187 = true := by decide +kernel
theorem mt_a_188 : b_mok1 mm_188 = true := by decide +kernel
theorem mt_a_189 : b_mok1 mm_189 = true := by decide +kernel
theorem mt_a_190 : b_mok1 mm_190 = true := by decide +kernel
theorem mt_a_191 : b_mok1 mm_191 = true := by decide +kernel
theorem mt_a_192 : b_mok1 mm_192 = true := by decide +kernel
theorem mt_a_193 : b_mok1 mm_193 = true := by decide +kernel
theorem mt_a_194 : b_mok1 mm_194 = true := by decide +kernel
theorem mt_a_195 : b_mok1 mm_195 = true := by decide +kernel
theorem mt_a_196 : b_mok1 mm_196 = true := by decide +kernel
theorem mt_a_197 : b_mok1 mm_197 = true := by decide +kernel
theorem mt_a_198 : b_mok1 mm_198 = true := by decide +kernel
theorem mt_a_199 : b_mok1 mm_199 = true := by decide +kernel
theorem mt_a_200 : b_mok1 mm_200 = true := by decide +kernel
theorem mt_a_201 : b_mok1 mm_201 = true := by decide +kernel
theorem mt_a_202 : b_mok1 mm_202 = true := by decide +kernel
theorem mt_a_203 : b_mok1 mm_203 = true := by decide +kernel
theorem mt_a_204 : b_mok1 mm_204 = true := by decide +kernel
theorem mt_a_205 : b_mok1 mm_205 = true := by decide +kernel
theorem mt_a_206 : b_mok1 mm_206 = true := by decide +kernel
theorem mt_a_207 : b_mok1 mm_207 = true := by decide +kernel
theorem mt_a_208 : b_mok1 mm_208 = true := by decide +kernel
theorem mt_a_209 : b_mok1 mm_209 = true := by decide +kernel
theorem mt_a_210 : b_mok1 mm_210 = true := by decide +kernel
theorem mt_a_211 : b_mok1 mm_211 = true := by decide +kernel
theorem mt_a_212 : b_mok1 mm_212 = true := by decide +kernel
theorem mt_a_213 : b_mok1 mm_213 = true := by decide +kernel
theorem mt_a_214 : b_mok1 mm_214 = true := by decide +kernel
theorem mt_a_215 : b_mok1 mm_215 = true := by decide +kernel
theorem mt_a_216 : b_mok1 mm_216 = true := by decide +kernel
theorem mt_a_217 : b_mok1 mm_217 = true := by decide +kernel
theorem mt_a_218 : b_mok1 mm_218 = true := by decide +kernel
theorem mt_a_219 : b_mok1 mm_219 = true := by decide +kernel
theorem mt_a_220 : b_mok1 mm_220 = true := by decide +kernel
theorem mt_a_221 : b_mok1 mm_221 = true := by decide +kernel
theorem mt_a_222 : b_mok1 mm_222 = true := by decide +kernel
theorem mt_a_223 : b_mok1 mm_223 = true := by decide +kernel
theorem mt_a_224 : b_mok1 mm_224 = true := by decide +kernel
theorem mt_a_225 : b_mok1 mm_225 = true := by decide +kernel
theorem mt_ok1_0 : ∀ M ∈ mt_0, b_mok1 M = true := by
  intro M hM
  simp only [mt_0, List.mem_cons, List.not_mem_nil, or_false] at hM
  rcases hM with rfl | rfl | rfl | rfl | rfl | rfl | rfl | rfl | rfl | rfl | rfl | rfl | rfl | rfl | rfl | rfl | rfl | rfl | rfl | rfl | rfl | rfl | rfl | rfl | rfl
  · exact mt_a_0
  · exact mt_a_1
  · exact mt_a_2
  · exact mt_a_3
  · exact mt_a_4
  · exact mt_a_5
  · exact mt_a_6
  · exact mt_a_7
  · exact mt_a_8
  · exact mt_a_9
  · exact mt_a_10
  · exact mt_a_11
  · exact mt_a_12
  · exact mt_a_13
  · exact mt_a_14
  · exact mt_a_15
  · exact mt_a_16
  · exact mt_a_17
  · exact mt_a_18
  · exact mt_a_19
  · exact mt_a_20
  · exact mt_a_21
  · exact mt_a_22
  · exact mt_a_23
  · exact mt_a_24
theorem mt_ok1_1 : ∀ M ∈ mt_1, b_mok1 M = true := by
  intro M hM
  simp only [mt_1, List.mem_cons, List.not_mem_nil, or_false] at hM
  rcases hM with rfl | rfl | rfl | rfl | rfl | rfl | rfl | rfl | rfl | rfl | rfl | rfl | rfl | rfl | rfl | rfl | rfl | rfl | rfl | rfl | rfl | rfl | rfl | rfl | rfl
  · exact mt_a_25
  · exact mt_a_26
  · exact mt_a_27
  · exact mt_a_28
  · exact mt_a_29
  · exact mt_a_30
  · exact mt_a_31
  · exact mt_a_32
  · exact mt_a_33
  · exact mt_a_34
  · exact mt_a_35
  · exact mt_a_36
  · exact mt_a_37
  · exact mt_a_38
  · exact mt_a_39
  · exact mt_a_40
  · exact mt_a_41
  · exact mt_a_42
  · exact mt_a_43
  · exact mt_a_44
  · exact mt_a_45
  · exact mt_a_46
  · exact mt_a_47
  · exact mt_a_48
  · exact mt_a_49
theorem mt_ok1_2 : ∀ M ∈ mt_2, b_mok1 M = true := by
  intro M hM
  simp only [mt_2, List.mem_cons, List.not_mem_nil, or_false] at hM
  rcases hM with rfl | rfl | rfl | rfl | rfl | rfl | rfl | rfl | rfl | rfl | rfl | rfl | rfl | rfl | rfl | rfl | rfl | rfl | rfl | rfl | rfl | rfl | rfl | rfl | rfl
  · exact mt_a_50
  · exact mt_a_51
  · exact mt_a_52
  · exact mt_a_53
  · exact mt_a_54
  · exact mt_a_55
  · exact mt_a_56
  · exact mt_a_57
  · exact mt_a_58
  · exact mt_a_59
  · exact mt_a_60
  · exact mt_a_61
  · exact mt_a_62
  · exact mt_a_63
  · exact mt_a_64
  · exact mt_a_65
  · exact mt_a_66
  · exact mt_a_67
  · exact mt_a_68
  · exact mt_a_69
  · exact mt_a_70
  · exact mt_a_71
  · exact mt_a_72
  · exact mt_a_73
  · exact mt_a_74
theorem mt_ok1_3 : ∀ M ∈ mt_3, b_mok1 M = true := by
  intro M hM
  simp only [mt_3, List.mem_cons, List.not_mem_nil, or_false] at hM
  rcases hM with rfl | rfl | rfl | rfl | rfl | rfl | rfl | rfl | rfl | rfl | rfl | rfl | rfl | rfl | rfl | rfl | rfl | rfl | rfl | rfl | rfl | rfl | rfl | rfl | rfl
  · exact mt_a_75
  · exact mt_a_76
  · exact mt_a_77
  · exact mt_a_78
  · exact mt_a_79
  · exact mt_a_80
  · exact mt_a_81
  · exact mt_a_82
  · exact mt_a_83
  · exact mt_a_84
  · exact mt_a_85
  · exact mt_a_86
  · exact mt_a_87
  · exact mt_a_88
  · exact mt_a_89
  · exact mt_a_90
  · exact mt_a_91
  · exact mt_a_92
  · exact mt_a_93
  · exact mt_a_94
  · exact mt_a_95
  · exact mt_a_96
  · exact mt_a_97
  · exact mt_a_98
  · exact mt_a_99
theorem mt_ok1_4 : ∀ M ∈ mt_4, b_mok1 M = true := by
  intro M hM
  simp only [mt_4, List.mem_cons, List.not_mem_nil, or_false] at hM
  rcases hM with rfl | rfl | rfl | rfl | rfl | rfl | rfl | rfl | rfl | rfl | rfl | rfl | rfl | rfl | rfl | rfl | rfl | rfl | rfl | rfl | rfl | rfl | rfl | rfl | rfl
  · exact mt_a_100
  · exact mt_a_101
  · exact mt_a_102
  · exact mt_a_103
  · exact mt_a_104
  · exact mt_a_105
  · exact mt_a_106
  · exact mt_a_107
  · exact mt_a_108
  · exact mt_a_109
  · exact mt_a_110
  · exact mt_a_111
  · exact mt_a_112
  · exact mt_a_113
  · exact mt_a_114
  · exact mt_a_115
  · exact mt_a_116
  · exact mt_a_117
  · exact mt_a_118
  · exact mt_a_119
  · exact mt_a_120
  · exact mt_a_121
  · exact mt_a_122
  · exact mt_a_123
  · exact mt_a_124
theorem mt_ok1_5 : ∀ M ∈ mt_5, b_mok1 M = true := by
  intro M hM
  simp only [mt_5, List.mem_cons, List.not_mem_nil, or_false] at hM
  rcases hM with rfl | rfl | rfl | rfl | rfl | rfl | rfl | rfl | rfl | rfl | rfl | rfl | rfl | rfl | rfl | rfl | rfl | rfl | rfl | rfl | rfl | rfl | rfl | rfl | rfl
  · exact mt_a_125
  · exact mt_a_126
  · exact mt_a_127
  · exact mt_a_128
  · exact mt_a_129
  · exact mt_a_130
  · exact mt_a_131
  · exact mt_a_132
  · exact mt_a_133
  · exact mt_a_134
  · exact mt_a_135
  · exact mt_a_136
  · exact mt_a_137
  · exact mt_a_138
  · exact mt_a_139
  · exact mt_a_140
  · exact mt_a_141
  · exact mt_a_142
  · exact mt_a_143
  · exact mt_a_144
  · exact mt_a_145
  · exact mt_a_146
  · exact mt_a_147
  · exact mt_a_148
  · exact mt_a_149
theorem mt_ok1_6 : ∀ M ∈ mt_6, b_mok1 M = true := by
  intro M hM
  simp only [mt_6, List.mem_cons, List.not_mem_nil, or_false] at hM
  rcases hM with rfl | rfl | rfl | rfl | rfl | rfl | rfl | rfl | rfl | rfl | rfl | rfl | rfl | rfl | rfl | rfl | rfl | rfl | rfl | rfl | rfl | rfl | rfl | rfl | rfl
  · exact mt_a_150
  · exact mt_a_151
  · exact mt_a_152
  · exact mt_a_153
  · exact mt_a_154
  · exact mt_a_155
  · exact mt_a_156
  · exact mt_a_157
  · exact mt_a_158
  · exact mt_a_159
  · exact mt_a_160
  · exact mt_a_161
  · exact mt_a_162
  · exact mt_a_163
  · exact mt_a_164
  · exact mt_a_165
  · exact mt_a_166
  · exact mt_a_167
  · exact mt_a_168
  · exact mt_a_169
  · exact mt_a_170
  · exact mt_a_171
  · exact mt_a_172
  · exact mt_a_173
  · exact mt_a_174
theorem mt_ok1_7 : ∀ M ∈ mt_7, b_mok1 M = true := by
  intro M hM
  simp only [mt_7, List.mem_cons, List.not_mem_nil, or_false] at hM
  rcases hM with rfl | rfl | rfl | rfl | rfl | rfl | rfl | rfl | rfl | rfl | rfl | rfl | rfl | rfl | rfl | rfl | rfl | rfl | rfl | rfl | rfl | rfl | rfl | rfl | rfl
  · exact mt_a_175
  · exact mt_a_176
  · exact mt_a_177
  · exact mt_a_178
  · exact mt_a_179
  · exact mt_a_180
  · exact mt_a_181
  · exact mt_a_182
  · exact mt_a_183
  · exact mt_a_184
  · exact mt_a_185
  · exact mt_a_186
  · exact mt_a_187
  · exact mt_a_188
  · exact mt_a_189
  · exact mt_a_190
  · exact mt_a_191
  · exact mt_a_192
  · exact mt_a_193
  · exact mt_a_194
  · exact mt_a_195
  · exact mt_a_196
  · exact mt_a_197
  · exact mt_a_198
  · exact mt_a_199
theorem mt_ok1_8 : ∀ M ∈ mt_8, b_mok1 M = true := by
  intro M hM
  simp only [mt_8, List.mem_cons, List.not_mem_nil, or_false] at hM
  rcases hM with rfl | rfl | rfl | rfl | rfl | rfl | rfl | rfl | rfl | rfl | rfl | rfl | rfl | rfl | rfl | rfl | rfl | rfl | rfl | rfl | rfl | rfl | rfl | rfl | rfl
  · exact mt_a_200
  · exact mt_a_201
  · exact mt_a_202
  · exact mt_a_203
  · exact mt_a_204
  · exact mt_a_205
  · exact mt_a_206
  · exact mt_a_207
  · exact mt_a_208
  · exact mt_a_209
  · exact mt_a_210
  · exact mt_a_211
  · exact mt_a_212
  · exact mt_a_213
  · exact mt_a_214
  · exact mt_a_215
  · exact mt_a_216
  · exact mt_a_217
  · exact mt_a_218
  · exact mt_a_219
  · exact mt_a_220
  · exact mt_a_221
  · exact mt_a_222
  · exact mt_a_223
  · exact mt_a_224
theorem mt_ok1_9 : ∀ M ∈ mt_9, b_mok1 M = true := by
  intro M hM
  simp only [mt_9, List.mem_cons, List.not_mem_nil, or_false] at hM
  rcases hM with rfl
  · exact mt_a_225
theorem mt_ok1 : ∀ M ∈ mt, b_mok1 M = true := by
  intro M hM
  rw [mt_eq] at hM
  rcases List.mem_append.mp hM with hM | hM
  · exact mt_ok1_0 M hM
  rcases List.mem_append.mp hM with hM | hM
  · exact mt_ok1_1 M hM
  rcases List.mem_append.mp hM with hM | hM
  · exact mt_ok1_2 M hM
  rcases List.mem_append.mp hM with hM | hM
  · exact mt_ok1_3 M hM
  rcases List.mem_append.mp hM with hM | hM
  · exact mt_ok1_4 M hM
  rcases List.mem_append.mp hM with hM | hM
  · exact mt_ok1_5 M hM
  rcases List.mem_append.mp hM with hM | hM
  · exact mt_ok1_6 M hM
  rcases List.mem_append.mp hM with hM | hM
  · exact mt_ok1_7 M hM
  rcases List.mem_append.mp hM with hM | hM
  · exact mt_ok1_8 M hM
  exact mt_ok1_9 M hM

theorem mt_Mk : ∀ M ∈ mt, b_Mk M := fun M hM => b_Mk_of (mt_ok1 M hM)
