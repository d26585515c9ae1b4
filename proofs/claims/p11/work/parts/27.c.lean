theorem mt_o_75 : b_mok2 mt mm_75 = true := by decide +kernel
theorem mt_o_76 : b_mok2 mt mm_76 = true := by decide +kernel
theorem mt_o_77 : b_mok2 mt mm_77 = true := by decide +kernel
theorem mt_o_78 : b_mok2 mt mm_78 = true := by decide +kernel
theorem mt_o_79 : b_mok2 mt mm_79 = true := by decide +kernel
theorem mt_o_80 : b_mok2 mt mm_80 = true := by decide +kernel
theorem mt_o_81 : b_mok2 mt mm_81 = true := by decide +kernel
theorem mt_o_82 : b_mok2 mt mm_82 = true := by decide +kernel
theorem mt_o_83 : b_mok2 mt mm_83 = true := by decide +kernel
theorem mt_o_84 : b_mok2 mt mm_84 = true := by decide +kernel
theorem mt_o_85 : b_mok2 mt mm_85 = true := by decide +kernel
theorem mt_o_86 : b_mok2 mt mm_86 = true := by decide +kernel
theorem mt_o_87 : b_mok2 mt mm_87 = true := by decide +kernel
theorem mt_o_88 : b_mok2 mt mm_88 = true := by decide +kernel
theorem mt_o_89 : b_mok2 mt mm_89 = true := by decide +kernel
theorem mt_o_90 : b_mok2 mt mm_90 = true := by decide +kernel
theorem mt_o_91 : b_mok2 mt mm_91 = true := by decide +kernel
theorem mt_o_92 : b_mok2 mt mm_92 = true := by decide +kernel
theorem mt_o_93_0 : mc_93_0.all (b_row mt mm_93) = true := by decide +kernel
theorem mt_o_93_1 : mc_93_1.all (b_row mt mm_93) = true := by decide +kernel
theorem mt_o_93 : b_mok2 mt mm_93 = true := ap_all mt_o_93_0 (mt_o_93_1)
theorem mt_o_94_0 : mc_94_0.all (b_row mt mm_94) = true := by decide +kernel
theorem mt_o_94_1 : mc_94_1.all (b_row mt mm_94) = true := by decide +kernel
theorem mt_o_94 : b_mok2 mt mm_94 = true := ap_all mt_o_94_0 (mt_o_94_1)
theorem mt_o_95 : b_mok2 mt mm_95 = true := by decide +kernel
theorem mt_o_96 : b_mok2 mt mm_96 = true := by decide +kernel
theorem mt_o_97 : b_mok2 mt mm_97 = true := by decide +kernel
theorem mt_o_98_0 : mc_98_0.all (b_row mt mm_98) = true := by decide +kernel
theorem mt_o_98_1 : mc_98_1.all (b_row mt mm_98) = true := by decide +kernel
theorem mt_o_98 : b_mok2 mt mm_98 = true := ap_all mt_o_98_0 (mt_o_98_1)
theorem mt_o_99 : b_mok2 mt mm_99 = true := by decide +kernel
theorem mt_o_100 : b_mok2 mt mm_100 = true := by decide +kernel
theorem mt_o_101_0 : mc_101_0.all (b_row mt mm_101) = true := by decide +kernel
theorem mt_o_101_1 : mc_101_1.all (b_row mt mm_101) = true := by decide +kernel
theorem mt_o_101 : b_mok2 mt mm_101 = true := ap_all mt_o_101_0 (mt_o_101_1)
theorem mt_o_102_0 : mc_102_0.all (b_row mt mm_102) = true := by decide +kernel
theorem mt_o_102_1 : mc_102_1.all (b_row mt mm_102) = true := by decide +kernel
theorem mt_o_102 : b_mok2 mt mm_102 = true := ap_all mt_o_102_0 (mt_o_102_1)
theorem mt_o_103_0 : mc_103_0.all (b_row mt mm_103) = true := by decide +kernel
theorem mt_o_103_1 : mc_103_1.all (b_row mt mm_103) = true := by decide +kernel
theorem mt_o_103 : b_mok2 mt mm_103 = true := ap_all mt_o_103_0 (mt_o_103_1)
theorem mt_o_104 : b_mok2 mt mm_104 = true := by decide +kernel
theorem mt_o_105 : b_mok2 mt mm_105 = true := by decide +kernel
theorem mt_o_106 : b_mok2 mt mm_106 = true := by decide +kernel
theorem mt_o_107 : b_mok2 mt mm_107 = true := by decide +kernel
theorem mt_o_108 : b_mok2 mt mm_108 = true := by decide +kernel
theorem mt_o_109_0 : mc_109_0.all (b_row mt mm_109) = true := by decide +kernel
theorem mt_o_109_1 : mc_109_1.all (b_row mt mm_109) = true := by decide +kernel
theorem mt_o_109 : b_mok2 mt mm_109 = true := ap_all mt_o_109_0 (mt_o_109_1)
theorem mt_o_110_0 : mc_110_0.all (b_row mt mm_110) = true := by decide +kernel
theorem mt_o_110_1 : mc_110_1.all (b_row mt mm_110) = true := by decide +kernel
theorem mt_o_110 : b_mok2 mt mm_110 = true := ap_all mt_o_110_0 (mt_o_110_1)
theorem mt_o_111 : b_mok2 mt mm_111 = true := by decide +kernel
theorem mt_o_112 : b_mok2 mt mm_112 = true := by decide +kernel
theorem mt_o_113 : b_mok2 mt mm_113 = true := by decide +kernel
theorem mt_o_114 : b_mok2 mt mm_114 = true := by decide +kernel
theorem mt_o_115 : b_mok2 mt mm_115 = true := by decide +kernel
theorem mt_o_116 : b_mok2 mt mm_116 = true := by decide +kernel
theorem mt_o_117 : b_mok2 mt mm_117 = true := by decide +kernel
theorem mt_o_118 : b_mok2 mt mm_118 = true := by decide +kernel
theorem mt_o_119 : b_mok2 mt mm_119 = true := by decide +kernel
theorem mt_o_120 : b_mok2 mt mm_120 = true := by decide +kernel
theorem mt_o_121 : b_mok2 mt mm_121 = true := by decide +kernel
theorem mt_o_122 : b_mok2 mt mm_122 = true := by decide +kernel
theorem mt_o_123 : b_mok2 mt mm_123 = true := by decide +kernel
theorem mt_o_124 : b_mok2 mt mm_124 = true := by decide +kernel
theorem mt_o_125 : b_mok2 mt mm_125 = true := by decide +kernel
theorem mt_o_126_0 : mc_126_0.all (b_row mt mm_126) = true := by decide +kernel
theorem mt_o_126_1 : mc_126_1.all (b_row mt mm_126) = true := by decide +kernel
theorem mt_o_126 : b_mok2 mt mm_126 = true := ap_all mt_o_126_0 (mt_o_126_1)
theorem mt_o_127 : b_mok2 mt mm_127 = true := by decide +kernel
theorem mt_o_128 : b_mok2 mt mm_128 = true := by decide +kernel
theorem mt_o_129 : b_mok2 mt mm_129 = true := by decide +kernel
theorem mt_o_130 : b_mok2 mt mm_130 = true := by decide +kernel
theorem mt_o_131 : b_mok2 mt mm_131 = true := by decide +kernel
theorem mt_o_132 : b_mok2 mt mm_132 = true := by decide +kernel
theorem mt_o_133 : b_mok2 mt mm_133 = true := by decide +kernel
theorem mt_o_134 : b_mok2 mt mm_134 = true := by decide +kernel
theorem mt_o_135 : b_mok2 mt mm_135 = true := by decide +kernel
theorem mt_o_136 : b_mok2 mt mm_136 = true := by decide +kernel
theorem mt_o_137 : b_mok2 mt mm_137 = true := by decide +kernel
theorem mt_o_138_0 : mc_138_0.all (b_row mt mm_138) = true := by decide +kernel
theorem mt_o_138_1 : mc_138_1.all (b_row mt mm_138) = true := by decide +kernel
theorem mt_o_138 : b_mok2 mt mm_138 = true := ap_all mt_o_138_0 (mt_o_138_1)
theorem mt_o_139 : b_mok2 mt mm_139 = true := by decide +kernel
theorem mt_o_140 : b_mok2 mt mm_140 = true := by decide +kernel
theorem mt_o_141 : b_mok2 mt mm_141 = true := by decide +kernel
theorem mt_o_142 : b_mok2 mt mm_142 = true := by decide +kernel
theorem mt_o_143_0 : mc_143_0.all (b_row mt mm_143) = true := by decide +kernel
theorem mt_o_143_1 : mc_143_1.all (b_row mt mm_143) = true := by decide +kernel
theorem mt_o_143_2 : mc_143_2.all (b_row mt mm_143) = true := by decide +kernel
theorem mt_o_143 : b_mok2 mt mm_143 = true := ap_all mt_o_143_0 (ap_all mt_o_143_1 (mt_o_143_2))
theorem mt_o_144 : b_mok2 mt mm_144 = true := by decide +kernel
theorem mt_o_145 : b_mok2 mt mm_145 = true := by decide +kernel
theorem mt_o_146 : b_mok2 mt mm_146 = true := by decide +kernel
theorem mt_o_147 : b_mok2 mt mm_147 = true := by decide +kernel
theorem mt_o_148 : b_mok2 mt mm_148 = true := by decide +kernel
theorem mt_o_149 : b_mok2 mt mm_149 = true := by decide +kernel
