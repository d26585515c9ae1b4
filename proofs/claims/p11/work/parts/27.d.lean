theorem mt_o_150 : b_mok2 mt mm_150 = true := by decide +kernel
theorem mt_o_151_0 : mc_151_0.all (b_row mt mm_151) = true := by decide +kernel
theorem mt_o_151_1 : mc_151_1.all (b_row mt mm_151) = true := by decide +kernel
theorem mt_o_151 : b_mok2 mt mm_151 = true := ap_all mt_o_151_0 (mt_o_151_1)
theorem mt_o_152 : b_mok2 mt mm_152 = true := by decide +kernel
theorem mt_o_153 : b_mok2 mt mm_153 = true := by decide +kernel
theorem mt_o_154_0 : mc_154_0.all (b_row mt mm_154) = true := by decide +kernel
theorem mt_o_154_1 : mc_154_1.all (b_row mt mm_154) = true := by decide +kernel
theorem mt_o_154_2 : mc_154_2.all (b_row mt mm_154) = true := by decide +kernel
theorem mt_o_154 : b_mok2 mt mm_154 = true := ap_all mt_o_154_0 (ap_all mt_o_154_1 (mt_o_154_2))
theorem mt_o_155 : b_mok2 mt mm_155 = true := by decide +kernel
theorem mt_o_156 : b_mok2 mt mm_156 = true := by decide +kernel
theorem mt_o_157 : b_mok2 mt mm_157 = true := by decide +kernel
theorem mt_o_158 : b_mok2 mt mm_158 = true := by decide +kernel
theorem mt_o_159 : b_mok2 mt mm_159 = true := by decide +kernel
theorem mt_o_160 : b_mok2 mt mm_160 = true := by decide +kernel
theorem mt_o_161 : b_mok2 mt mm_161 = true := by decide +kernel
theorem mt_o_162_0 : mc_162_0.all (b_row mt mm_162) = true := by decide +kernel
theorem mt_o_162_1 : mc_162_1.all (b_row mt mm_162) = true := by decide +kernel
theorem mt_o_162 : b_mok2 mt mm_162 = true := ap_all mt_o_162_0 (mt_o_162_1)
theorem mt_o_163_0 : mc_163_0.all (b_row mt mm_163) = true := by decide +kernel
theorem mt_o_163_1 : mc_163_1.all (b_row mt mm_163) = true := by decide +kernel
theorem mt_o_163 : b_mok2 mt mm_163 = true := ap_all mt_o_163_0 (mt_o_163_1)
theorem mt_o_164 : b_mok2 mt mm_164 = true := by decide +kernel
theorem mt_o_165 : b_mok2 mt mm_165 = true := by decide +kernel
theorem mt_o_166 : b_mok2 mt mm_166 = true := by decide +kernel
theorem mt_o_167 : b_mok2 mt mm_167 = true := by decide +kernel
theorem mt_o_168_0 : mc_168_0.all (b_row mt mm_168) = true := by decide +kernel
theorem mt_o_168_1 : mc_168_1.all (b_row mt mm_168) = true := by decide +kernel
theorem mt_o_168_2 : mc_168_2.all (b_row mt mm_168) = true := by decide +kernel
theorem mt_o_168_3 : mc_168_3.all (b_row mt mm_168) = true := by decide +kernel
theorem mt_o_168 : b_mok2 mt mm_168 = true := ap_all mt_o_168_0 (ap_all mt_o_168_1 (ap_all mt_o_168_2 (mt_o_168_3)))
theorem mt_o_169 : b_mok2 mt mm_169 = true := by decide +kernel
theorem mt_o_170 : b_mok2 mt mm_170 = true := by decide +kernel
theorem mt_o_171 : b_mok2 mt mm_171 = true := by decide +kernel
theorem mt_o_172_0 : mc_172_0.all (b_row mt mm_172) = true := by decide +kernel
theorem mt_o_172_1 : mc_172_1.all (b_row mt mm_172) = true := by decide +kernel
theorem mt_o_172_2 : mc_172_2.all (b_row mt mm_172) = true := by decide +kernel
theorem mt_o_172 : b_mok2 mt mm_172 = true := ap_all mt_o_172_0 (ap_all mt_o_172_1 (mt_o_172_2))
theorem mt_o_173 : b_mok2 mt mm_173 = true := by decide +kernel
theorem mt_o_174_0 : mc_174_0.all (b_row mt mm_174) = true := by decide +kernel
theorem mt_o_174_1 : mc_174_1.all (b_row mt mm_174) = true := by decide +kernel
theorem mt_o_174_2 : mc_174_2.all (b_row mt mm_174) = true := by decide +kernel
theorem mt_o_174_3 : mc_174_3.all (b_row mt mm_174) = true := by decide +kernel
theorem mt_o_174 : b_mok2 mt mm_174 = true := ap_all mt_o_174_0 (ap_all mt_o_174_1 (ap_all mt_o_174_2 (mt_o_174_3)))
theorem mt_o_175 : b_mok2 mt mm_175 = true := by decide +kernel
theorem mt_o_176_0 : mc_176_0.all (b_row mt mm_176) = true := by decide +kernel
theorem mt_o_176_1 : mc_176_1.all (b_row mt mm_176) = true := by decide +kernel
theorem mt_o_176_2 : mc_176_2.all (b_row mt mm_176) = true := by decide +kernel
theorem mt_o_176_3 : mc_176_3.all (b_row mt mm_176) = true := by decide +kernel
theorem mt_o_176 : b_mok2 mt mm_176 = true := ap_all mt_o_176_0 (ap_all mt_o_176_1 (ap_all mt_o_176_2 (mt_o_176_3)))
theorem mt_o_177_0 : mc_177_0.all (b_row mt mm_177) = true := by decide +kernel
theorem mt_o_177_1 : mc_177_1.all (b_row mt mm_177) = true := by decide +kernel
theorem mt_o_177_2 : mc_177_2.all (b_row mt mm_177) = true := by decide +kernel
theorem mt_o_177 : b_mok2 mt mm_177 = true := ap_all mt_o_177_0 (ap_all mt_o_177_1 (mt_o_177_2))
theorem mt_o_178 : b_mok2 mt mm_178 = true := by decide +kernel
theorem mt_o_179_0 : mc_179_0.all (b_row mt mm_179) = true := by decide +kernel
theorem mt_o_179_1 : mc_179_1.all (b_row mt mm_179) = true := by decide +kernel
theorem mt_o_179 : b_mok2 mt mm_179 = true := ap_all mt_o_179_0 (mt_o_179_1)
theorem mt_o_180 : b_mok2 mt mm_180 = true := by decide +kernel
theorem mt_o_181 : b_mok2 mt mm_181 = true := by decide +kernel
theorem mt_o_182 : b_mok2 mt mm_182 = true := by decide +kernel
theorem mt_o_183 : b_mok2 mt mm_183 = true := by decide +kernel
theorem mt_o_184_0 : mc_184_0.all (b_row mt mm_184) = true := by decide +kernel
theorem mt_o_184_1 : mc_184_1.all (b_row mt mm_184) = true := by decide +kernel
theorem mt_o_184_2 : mc_184_2.all (b_row mt mm_184) = true := by decide +kernel
theorem mt_o_184 : b_mok2 mt mm_184 = true := ap_all mt_o_184_0 (ap_all mt_o_184_1 (mt_o_184_2))
theorem mt_o_185 : b_mok2 mt mm_185 = true := by decide +kernel
theorem mt_o_186 : b_mok2 mt mm_186 = true := by decide +kernel
theorem mt_o_187 : b_mok2 mt mm_187 = true := by decide +kernel
theorem mt_o_188 : b_mok2 mt mm_188 = true := by decide +kernel
theorem mt_o_189_0 : mc_189_0.all (b_row mt mm_189) = true := by decide +kernel
theorem mt_o_189_1 : mc_189_1.all (b_row mt mm_189) = true := by decide +kernel
theorem mt_o_189 : b_mok2 mt mm_189 = true := ap_all mt_o_189_0 (mt_o_189_1)
theorem mt_o_190 : b_mok2 mt mm_190 = true := by decide +kernel
theorem mt_o_191 : b_mok2 mt mm_191 = true := by decide +kernel
theorem mt_o_192 : b_mok2 mt mm_192 = true := by decide +kernel
theorem mt_o_193_0 : mc_193_0.all (b_row mt mm_193) = true := by decide +kernel
theorem mt_o_193_1 : mc_193_1.all (b_row mt mm_193) = true := by decide +kernel
theorem mt_o_193 : b_mok2 mt mm_193 = true := ap_all mt_o_193_0 (mt_o_193_1)
theorem mt_o_194 : b_mok2 mt mm_194 = true := by decide +kernel
theorem mt_o_195 : b_mok2 mt mm_195 = true := by decide +kernel
theorem mt_o_196_0 : mc_196_0.all (b_row mt mm_196) = true := by decide +kernel
theorem mt_o_196_1 : mc_196_1.all (b_row mt mm_196) = true := by decide +kernel
theorem mt_o_196 : b_mok2 mt mm_196 = true := ap_all mt_o_196_0 (mt_o_196_1)
theorem mt_o_197 : b_mok2 mt mm_197 = true := by decide +kernel
theorem mt_o_198_0 : mc_198_0.all (b_row mt mm_198) = true := by decide +kernel
theorem mt_o_198_1 : mc_198_1.all (b_row mt mm_198) = true := by decide +kernel
theorem mt_o_198 : b_mok2 mt mm_198 = true := ap_all mt_o_198_0 (mt_o_198_1)
theorem mt_o_199_0 : mc_199_0.all (b_row mt mm_199) = true := by decide +kernel
theorem mt_o_199_1 : mc_199_1.all (b_row mt mm_199) = true := by decide +kernel
theorem mt_o_199 : b_mok2 mt mm_199 = true := ap_all mt_o_199_0 (mt_o_199_1)
theorem mt_o_200 : b_mok2 mt mm_200 = true := by decide +kernel
theorem mt_o_201 : b_mok2 mt mm_201 = true := by decide +kernel
theorem mt_o_202 : b_mok2 mt mm_202 = true := by decide +kernel
theorem mt_o_203 : b_mok2 mt mm_203 = true := by decide +kernel
theorem mt_o_204 : b_mok2 mt mm_204 = true := by decide +kernel
theorem mt_o_205_0 : mc_205_0.all (b_row mt mm_205) = true := by decide +kernel
theorem mt_o_205_1 : mc_205_1.all (b_row mt mm_205) = true := by decide +kernel
theorem mt_o_205_2 : mc_205_2.all (b_row mt mm_205) = true := by decide +kernel
theorem mt_o_205_3 : mc_205_3.all (b_row mt mm_205) = true := by decide +kernel
theorem mt_o_205 : b_mok2 mt mm_205 = true := ap_all mt_o_205_0 (ap_all mt_o_205_1 (ap_all mt_o_205_2 (mt_o_205_3)))
theorem mt_o_206_0 : mc_206_0.all (b_row mt mm_206) = true := by decide +kernel
theorem mt_o_206_1 : mc_206_1.all (b_row mt mm_206) = true := by decide +kernel
theorem mt_o_206 : b_mok2 mt mm_206 = true := ap_all mt_o_206_0 (mt_o_206_1)
theorem mt_o_207_0 : mc_207_0.all (b_row mt mm_207) = true := by decide +kernel
theorem mt_o_207_1 : mc_207_1.all (b_row mt mm_207) = true := by decide +kernel
theorem mt_o_207 : b_mok2 mt mm_207 = true := ap_all mt_o_207_0 (mt_o_207_1)
theorem mt_o_208_0 : mc_208_0.all (b_row mt mm_208) = true := by decide +kernel
theorem mt_o_208_1 : mc_208_1.all (b_row mt mm_208) = true := by decide +kernel
theorem mt_o_208 : b_mok2 mt mm_208 = true := ap_all mt_o_208_0 (mt_o_208_1)
theorem mt_o_209 : b_mok2 mt mm_209 = true := by decide +kernel
theorem mt_o_210 : b_mok2 mt mm_210 = true := by decide +kernel
theorem mt_o_211 : b_mok2 mt mm_211 = true := by decide +kernel
theorem mt_o_212 : b_mok2 mt mm_212 = true := by decide +kernel
theorem mt_o_213 : b_mok2 mt mm_213 = true := by decide +kernel
theorem mt_o_214 : b_mok2 mt mm_214 = true := by decide +kernel
theorem mt_o_215 : b_mok2 mt mm_215 = true := by decide +kernel
theorem mt_o_216 : b_mok2 mt mm_216 = true := by decide +kernel
theorem mt_o_217 : b_mok2 mt mm_217 = true := by decide +kernel
theorem mt_o_218 : b_mok2 mt mm_218 = true := by decide +kernel
theorem mt_o_219 : b_mok2 mt mm_219 = true := by decide +kernel
theorem mt_o_220 : b_mok2 mt mm_220 = true := by decide +kernel
theorem mt_o_221 : b_mok2 mt mm_221 = true := by decide +kernel
theorem mt_o_222 : b_mok2 mt mm_222 = true := by decide +kernel
theorem mt_o_223 : b_mok2 mt mm_223 = true := by decide +kernel
theorem mt_o_224 : b_mok2 mt mm_224 = true := by decide +kernel
theorem mt_o_225 : b_mok2 mt mm_225 = true := by decide +kernel
theorem mt_o_226_0 : mc_226_0.all (b_row mt mm_226) = true := by decide +kernel
theorem mt_o_226_1 : mc_226_1.all (b_row mt mm_226) = true := by decide +kernel
theorem mt_o_226_2 : mc_226_2.all (b_row mt mm_226) = true := by decide +kernel
theorem mt_o_226_3 : mc_226_3.all (b_row mt mm_226) = true := by decide +kernel
theorem mt_o_226_4 : mc_226_4.all (b_row mt mm_226) = true := by decide +kernel
theorem mt_o_226_5 : mc_226_5.all (b_row mt mm_226) = true := by decide +kernel
theorem mt_o_226_6 : mc_226_6.all (b_row mt mm_226) = true := by decide +kernel
theorem mt_o_226_7 : mc_226_7.all (b_row mt mm_226) = true := by decide +kernel
theorem mt_o_226_8 : mc_226_8.all (b_row mt mm_226) = true := by decide +kernel
theorem mt_o_226 : b_mok2 mt mm_226 = true := ap_all mt_o_226_0 (ap_all mt_o_226_1 (ap_all mt_o_226_2 (ap_all mt_o_226_3 (ap_all mt_o_226_4 (ap_all mt_o_226_5 (ap_all mt_o_226_6 (ap_all mt_o_226_7 (mt_o_226_8))))))))
theorem mt_ok2_0 : ∀ M ∈ mt_0, b_mok2 mt M = true := by
  intro M hM
  simp only [mt_0, List.mem_cons, List.not_mem_nil, or_false] at hM
  rcases hM with rfl | rfl | rfl | rfl | rfl | rfl | rfl | rfl | rfl | rfl | rfl | rfl | rfl | rfl | rfl | rfl | rfl | rfl | rfl | rfl | rfl | rfl | rfl | rfl | rfl
  · exact mt_o_0
  · exact mt_o_1
  · exact mt_o_2
  · exact mt_o_3
  · exact mt_o_4
  · exact mt_o_5
  · exact mt_o_6
  · exact mt_o_7
  · exact mt_o_8
  · exact mt_o_9
  · exact mt_o_10
  · exact mt_o_11
  · exact mt_o_12
  · exact mt_o_13
  · exact mt_o_14
  · exact mt_o_15
  · exact mt_o_16
  · exact mt_o_17
  · exact mt_o_18
  · exact mt_o_19
  · exact mt_o_20
  · exact mt_o_21
  · exact mt_o_22
  · exact mt_o_23
  · exact mt_o_24
theorem mt_ok2_1 : ∀ M ∈ mt_1, b_mok2 mt M = true := by
  intro M hM
  simp only [mt_1, List.mem_cons, List.not_mem_nil, or_false] at hM
  rcases hM with rfl | rfl | rfl | rfl | rfl | rfl | rfl | rfl | rfl | rfl | rfl | rfl | rfl | rfl | rfl | rfl | rfl | rfl | rfl | rfl | rfl | rfl | rfl | rfl | rfl
  · exact mt_o_25
  · exact mt_o_26
  · exact mt_o_27
  · exact mt_o_28
  · exact mt_o_29
  · exact mt_o_30
  · exact mt_o_31
  · exact mt_o_32
  · exact mt_o_33
  · exact mt_o_34
  · exact mt_o_35
  · exact mt_o_36
  · exact mt_o_37
  · exact mt_o_38
  · exact mt_o_39
  · exact mt_o_40
  · exact mt_o_41
  · exact mt_o_42
  · exact mt_o_43
  · exact mt_o_44
  · exact mt_o_45
  · exact mt_o_46
  · exact mt_o_47
  · exact mt_o_48
  · exact mt_o_49
theorem mt_ok2_2 : ∀ M ∈ mt_2, b_mok2 mt M = true := by
  intro M hM
  simp only [mt_2, List.mem_cons, List.not_mem_nil, or_false] at hM
  rcases hM with rfl | rfl | rfl | rfl | rfl | rfl | rfl | rfl | rfl | rfl | rfl | rfl | rfl | rfl | rfl | rfl | rfl | rfl | rfl | rfl | rfl | rfl | rfl | rfl | rfl
  · exact mt_o_50
  · exact mt_o_51
  · exact mt_o_52
  · exact mt_o_53
  · exact mt_o_54
  · exact mt_o_55
  · exact mt_o_56
  · exact mt_o_57
  · exact mt_o_58
  · exact mt_o_59
  · exact mt_o_60
  · exact mt_o_61
  · exact mt_o_62
  · exact mt_o_63
  · exact mt_o_64
  · exact mt_o_65
  · exact mt_o_66
  · exact mt_o_67
  · exact mt_o_68
  · exact mt_o_69
  · exact mt_o_70
  · exact mt_o_71
  · exact mt_o_72
  · exact mt_o_73
  · exact mt_o_74
theorem mt_ok2_3 : ∀ M ∈ mt_3, b_mok2 mt M = true := by
  intro M hM
  simp only [mt_3, List.mem_cons, List.not_mem_nil, or_false] at hM
  rcases hM with rfl | rfl | rfl | rfl | rfl | rfl | rfl | rfl | rfl | rfl | rfl | rfl | rfl | rfl | rfl | rfl | rfl | rfl | rfl | rfl | rfl | rfl | rfl | rfl | rfl
  · exact mt_o_75
  · exact mt_o_76
  · exact mt_o_77
  · exact mt_o_78
  · exact mt_o_79
  · exact mt_o_80
  · exact mt_o_81
  · exact mt_o_82
  · exact mt_o_83
  · exact mt_o_84
  · exact mt_o_85
  · exact mt_o_86
  · exact mt_o_87
  · exact mt_o_88
  · exact mt_o_89
  · exact mt_o_90
  · exact mt_o_91
  · exact mt_o_92
  · exact mt_o_93
  · exact mt_o_94
  · exact mt_o_95
  · exact mt_o_96
  · exact mt_o_97
  · exact mt_o_98
  · exact mt_o_99
theorem mt_ok2_4 : ∀ M ∈ mt_4, b_mok2 mt M = true := by
  intro M hM
  simp only [mt_4, List.mem_cons, List.not_mem_nil, or_false] at hM
  rcases hM with rfl | rfl | rfl | rfl | rfl | rfl | rfl | rfl | rfl | rfl | rfl | rfl | rfl | rfl | rfl | rfl | rfl | rfl | rfl | rfl | rfl | rfl | rfl | rfl | rfl
  · exact mt_o_100
  · exact mt_o_101
  · exact mt_o_102
  · exact mt_o_103
  · exact mt_o_104
  · exact mt_o_105
  · exact mt_o_106
  · exact mt_o_107
  · exact mt_o_108
  · exact mt_o_109
  · exact mt_o_110
  · exact mt_o_111
  · exact mt_o_112
  · exact mt_o_113
  · exact mt_o_114
  · exact mt_o_115
  · exact mt_o_116
  · exact mt_o_117
  · exact mt_o_118
  · exact mt_o_119
  · exact mt_o_120
  · exact mt_o_121
  · exact mt_o_122
  · exact mt_o_123
  · exact mt_o_124
theorem mt_ok2_5 : ∀ M ∈ mt_5, b_mok2 mt M = true := by
  intro M hM
  simp only [mt_5, List.mem_cons, List.not_mem_nil, or_false] at hM
  rcases hM with rfl | rfl | rfl | rfl | rfl | rfl | rfl | rfl | rfl | rfl | rfl | rfl | rfl | rfl | rfl | rfl | rfl | rfl | rfl | rfl | rfl | rfl | rfl | rfl | rfl
  · exact mt_o_125
  · exact mt_o_126
  · exact mt_o_127
  · exact mt_o_128
  · exact mt_o_129
  · exact mt_o_130
  · exact mt_o_131
  · exact mt_o_132
  · exact mt_o_133
  · exact mt_o_134
  · exact mt_o_135
  · exact mt_o_136
  · exact mt_o_137
  · exact mt_o_138
  · exact mt_o_139
  · exact mt_o_140
  · exact mt_o_141
  · exact mt_o_142
  · exact mt_o_143
  · exact mt_o_144
  · exact mt_o_145
  · exact mt_o_146
  · exact mt_o_147
  · exact mt_o_148
  · exact mt_o_149
theorem mt_ok2_6 : ∀ M ∈ mt_6, b_mok2 mt M = true := by
  intro M hM
  simp only [mt_6, List.mem_cons, List.not_mem_nil, or_false] at hM
  rcases hM with rfl | rfl | rfl | rfl | rfl | rfl | rfl | rfl | rfl | rfl | rfl | rfl | rfl | rfl | rfl | rfl | rfl | rfl | rfl | rfl | rfl | rfl | rfl | rfl | rfl
  · exact mt_o_150
  · exact mt_o_151
  · exact mt_o_152
  · exact mt_o_153
  · exact mt_o_154
  · exact mt_o_155
  · exact mt_o_156
  · exact mt_o_157
  · exact mt_o_158
  · exact mt_o_159
  · exact mt_o_160
  · exact mt_o_161
  · exact mt_o_162
  · exact mt_o_163
  · exact mt_o_164
  · exact mt_o_165
  · exact mt_o_166
  · exact mt_o_167
  · exact mt_o_168
  · exact mt_o_169
  · exact mt_o_170
  · exact mt_o_171
  · exact mt_o_172
  · exact mt_o_173
  · exact mt_o_174
theorem mt_ok2_7 : ∀ M ∈ mt_7, b_mok2 mt M = true := by
  intro M hM
  simp only [mt_7, List.mem_cons, List.not_mem_nil, or_false] at hM
  rcases hM with rfl | rfl | rfl | rfl | rfl | rfl | rfl | rfl | rfl | rfl | rfl | rfl | rfl | rfl | rfl | rfl | rfl | rfl | rfl | rfl | rfl | rfl | rfl | rfl | rfl
  · exact mt_o_175
  · exact mt_o_176
  · exact mt_o_177
  · exact mt_o_178
  · exact mt_o_179
  · exact mt_o_180
  · exact mt_o_181
  · exact mt_o_182
  · exact mt_o_183
  · exact mt_o_184
  · exact mt_o_185
  · exact mt_o_186
  · exact mt_o_187
  · exact mt_o_188
  · exact mt_o_189
  · exact mt_o_190
  · exact mt_o_191
  · exact mt_o_192
  · exact mt_o_193
  · exact mt_o_194
  · exact mt_o_195
  · exact mt_o_196
  · exact mt_o_197
  · exact mt_o_198
  · exact mt_o_199
theorem mt_ok2_8 : ∀ M ∈ mt_8, b_mok2 mt M = true := by
  intro M hM
  simp only [mt_8, List.mem_cons, List.not_mem_nil, or_false] at hM
  rcases hM with rfl | rfl | rfl | rfl | rfl | rfl | rfl | rfl | rfl | rfl | rfl | rfl | rfl | rfl | rfl | rfl | rfl | rfl | rfl | rfl | rfl | rfl | rfl | rfl | rfl
  · exact mt_o_200
  · exact mt_o_201
  · exact mt_o_202
  · exact mt_o_203
  · exact mt_o_204
  · exact mt_o_205
  · exact mt_o_206
  · exact mt_o_207
  · exact mt_o_208
  · exact mt_o_209
  · exact mt_o_210
  · exact mt_o_211
  · exact mt_o_212
  · exact mt_o_213
  · exact mt_o_214
  · exact mt_o_215
  · exact mt_o_216
  · exact mt_o_217
  · exact mt_o_218
  · exact mt_o_219
  · exact mt_o_220
  · exact mt_o_221
  · exact mt_o_222
  · exact mt_o_223
  · exact mt_o_224
theorem mt_ok2_9 : ∀ M ∈ mt_9, b_mok2 mt M = true := by
  intro M hM
  simp only [mt_9, List.mem_cons, List.not_mem_nil, or_false] at hM
  rcases hM with rfl
  · exact mt_o_225
theorem mt_ok2 : ∀ M ∈ mt, b_mok2 mt M = true := by
  intro M hM
  rw [mt_eq] at hM
  rcases List.mem_append.mp hM with hM | hM
  · exact mt_ok2_0 M hM
  rcases List.mem_append.mp hM with hM | hM
  · exact mt_ok2_1 M hM
  rcases List.mem_append.mp hM with hM | hM
  · exact mt_ok2_2 M hM
  rcases List.mem_append.mp hM with hM | hM
  · exact mt_ok2_3 M hM
  rcases List.mem_append.mp hM with hM | hM
  · exact mt_ok2_4 M hM
  rcases List.mem_append.mp hM with hM | hM
  · exact mt_ok2_5 M hM
  rcases List.mem_append.mp hM with hM | hM
  · exact mt_ok2_6 M hM
  rcases List.mem_append.mp hM with hM | hM
  · exact mt_ok2_7 M hM
  rcases List.mem_append.mp hM with hM | hM
  · exact mt_ok2_8 M hM
  exact mt_ok2_9 M hM

