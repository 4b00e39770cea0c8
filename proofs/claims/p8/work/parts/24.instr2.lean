/-! The lists are right (2). -/
set_option maxRecDepth 100000 in
theorem tb_c_90_0 : tb_I_90_0.all (tb_chk 90) = true := by decide +kernel
set_option maxRecDepth 100000 in
theorem tb_c_91_0 : tb_I_91_0.all (tb_chk 91) = true := by decide +kernel
set_option maxRecDepth 100000 in
theorem tb_c_92_0 : tb_I_92_0.all (tb_chk 92) = true := by decide +kernel
set_option maxRecDepth 100000 in
theorem tb_c_93_0 : tb_I_93_0.all (tb_chk 93) = true := by decide +kernel
set_option maxRecDepth 100000 in
theorem tb_c_93_1 : tb_I_93_1.all (tb_chk 93) = true := by decide +kernel
set_option maxRecDepth 100000 in
theorem tb_c_94_0 : tb_I_94_0.all (tb_chk 94) = true := by decide +kernel
set_option maxRecDepth 100000 in
theorem tb_c_94_1 : tb_I_94_1.all (tb_chk 94) = true := by decide +kernel
set_option maxRecDepth 100000 in
theorem tb_c_95_0 : tb_I_95_0.all (tb_chk 95) = true := by decide +kernel
set_option maxRecDepth 100000 in
theorem tb_c_96_0 : tb_I_96_0.all (tb_chk 96) = true := by decide +kernel
set_option maxRecDepth 100000 in
theorem tb_c_97_0 : tb_I_97_0.all (tb_chk 97) = true := by decide +kernel
set_option maxRecDepth 100000 in
theorem tb_c_97_1 : tb_I_97_1.all (tb_chk 97) = true := by decide +kernel
set_option maxRecDepth 100000 in
theorem tb_c_98_0 : tb_I_98_0.all (tb_chk 98) = true := by decide +kernel
set_option maxRecDepth 100000 in
theorem tb_c_98_1 : tb_I_98_1.all (tb_chk 98) = true := by decide +kernel
set_option maxRecDepth 100000 in
theorem tb_c_98_2 : tb_I_98_2.all (tb_chk 98) = true := by decide +kernel
set_option maxRecDepth 100000 in
theorem tb_c_99_0 : tb_I_99_0.all (tb_chk 99) = true := by decide +kernel
set_option maxRecDepth 100000 in
theorem tb_c_99_1 : tb_I_99_1.all (tb_chk 99) = true := by decide +kernel
set_option maxRecDepth 100000 in
theorem tb_c_100_0 : tb_I_100_0.all (tb_chk 100) = true := by decide +kernel
set_option maxRecDepth 100000 in
theorem tb_c_100_1 : tb_I_100_1.all (tb_chk 100) = true := by decide +kernel
set_option maxRecDepth 100000 in
theorem tb_c_100_2 : tb_I_100_2.all (tb_chk 100) = true := by decide +kernel
set_option maxRecDepth 100000 in
theorem tb_c_101_0 : tb_I_101_0.all (tb_chk 101) = true := by decide +kernel
set_option maxRecDepth 100000 in
theorem tb_c_101_1 : tb_I_101_1.all (tb_chk 101) = true := by decide +kernel
set_option maxRecDepth 100000 in
theorem tb_c_102_0 : tb_I_102_0.all (tb_chk 102) = true := by decide +kernel
set_option maxRecDepth 100000 in
theorem tb_c_103_0 : tb_I_103_0.all (tb_chk 103) = true := by decide +kernel
set_option maxRecDepth 100000 in
theorem tb_c_104_0 : tb_I_104_0.all (tb_chk 104) = true := by decide +kernel
set_option maxRecDepth 100000 in
theorem tb_c_104_1 : tb_I_104_1.all (tb_chk 104) = true := by decide +kernel
set_option maxRecDepth 100000 in
theorem tb_c_105_0 : tb_I_105_0.all (tb_chk 105) = true := by decide +kernel
set_option maxRecDepth 100000 in
theorem tb_c_105_1 : tb_I_105_1.all (tb_chk 105) = true := by decide +kernel
set_option maxRecDepth 100000 in
theorem tb_c_106_0 : tb_I_106_0.all (tb_chk 106) = true := by decide +kernel
set_option maxRecDepth 100000 in
theorem tb_c_106_1 : tb_I_106_1.all (tb_chk 106) = true := by decide +kernel
set_option maxRecDepth 100000 in
theorem tb_c_107_0 : tb_I_107_0.all (tb_chk 107) = true := by decide +kernel
set_option maxRecDepth 100000 in
theorem tb_c_107_1 : tb_I_107_1.all (tb_chk 107) = true := by decide +kernel
set_option maxRecDepth 100000 in
theorem tb_c_108_0 : tb_I_108_0.all (tb_chk 108) = true := by decide +kernel
set_option maxRecDepth 100000 in
theorem tb_c_109_0 : tb_I_109_0.all (tb_chk 109) = true := by decide +kernel
set_option maxRecDepth 100000 in
theorem tb_c_110_0 : tb_I_110_0.all (tb_chk 110) = true := by decide +kernel
set_option maxRecDepth 100000 in
theorem tb_c_111_0 : tb_I_111_0.all (tb_chk 111) = true := by decide +kernel
set_option maxRecDepth 100000 in
theorem tb_c_111_1 : tb_I_111_1.all (tb_chk 111) = true := by decide +kernel
set_option maxRecDepth 100000 in
theorem tb_c_112_0 : tb_I_112_0.all (tb_chk 112) = true := by decide +kernel
set_option maxRecDepth 100000 in
theorem tb_c_113_0 : tb_I_113_0.all (tb_chk 113) = true := by decide +kernel
set_option maxRecDepth 100000 in
theorem tb_c_114_0 : tb_I_114_0.all (tb_chk 114) = true := by decide +kernel
set_option maxRecDepth 100000 in
theorem tb_c_114_1 : tb_I_114_1.all (tb_chk 114) = true := by decide +kernel
set_option maxRecDepth 100000 in
theorem tb_c_115_0 : tb_I_115_0.all (tb_chk 115) = true := by decide +kernel
set_option maxRecDepth 100000 in
theorem tb_c_115_1 : tb_I_115_1.all (tb_chk 115) = true := by decide +kernel
set_option maxRecDepth 100000 in
theorem tb_c_116_0 : tb_I_116_0.all (tb_chk 116) = true := by decide +kernel
set_option maxRecDepth 100000 in
theorem tb_c_117_0 : tb_I_117_0.all (tb_chk 117) = true := by decide +kernel
set_option maxRecDepth 100000 in
theorem tb_c_118_0 : tb_I_118_0.all (tb_chk 118) = true := by decide +kernel
set_option maxRecDepth 100000 in
theorem tb_c_119_0 : tb_I_119_0.all (tb_chk 119) = true := by decide +kernel
set_option maxRecDepth 100000 in
theorem tb_c_120_0 : tb_I_120_0.all (tb_chk 120) = true := by decide +kernel
set_option maxRecDepth 100000 in
theorem tb_c_121_0 : tb_I_121_0.all (tb_chk 121) = true := by decide +kernel
set_option maxRecDepth 100000 in
theorem tb_c_121_1 : tb_I_121_1.all (tb_chk 121) = true := by decide +kernel
set_option maxRecDepth 100000 in
theorem tb_c_122_0 : tb_I_122_0.all (tb_chk 122) = true := by decide +kernel
set_option maxRecDepth 100000 in
theorem tb_c_123_0 : tb_I_123_0.all (tb_chk 123) = true := by decide +kernel
set_option maxRecDepth 100000 in
theorem tb_c_124_0 : tb_I_124_0.all (tb_chk 124) = true := by decide +kernel
set_option maxRecDepth 100000 in
theorem tb_c_125_0 : tb_I_125_0.all (tb_chk 125) = true := by decide +kernel
set_option maxRecDepth 100000 in
theorem tb_c_126_0 : tb_I_126_0.all (tb_chk 126) = true := by decide +kernel
set_option maxRecDepth 100000 in
theorem tb_c_126_1 : tb_I_126_1.all (tb_chk 126) = true := by decide +kernel
set_option maxRecDepth 100000 in
theorem tb_c_127_0 : tb_I_127_0.all (tb_chk 127) = true := by decide +kernel
set_option maxRecDepth 100000 in
theorem tb_c_128_0 : tb_I_128_0.all (tb_chk 128) = true := by decide +kernel
set_option maxRecDepth 100000 in
theorem tb_c_129_0 : tb_I_129_0.all (tb_chk 129) = true := by decide +kernel
set_option maxRecDepth 100000 in
theorem tb_c_130_0 : tb_I_130_0.all (tb_chk 130) = true := by decide +kernel
set_option maxRecDepth 100000 in
theorem tb_c_130_1 : tb_I_130_1.all (tb_chk 130) = true := by decide +kernel
set_option maxRecDepth 100000 in
theorem tb_c_131_0 : tb_I_131_0.all (tb_chk 131) = true := by decide +kernel
set_option maxRecDepth 100000 in
theorem tb_c_132_0 : tb_I_132_0.all (tb_chk 132) = true := by decide +kernel
