/-! The lists are right (3). -/
set_option maxRecDepth 100000 in
theorem tb_c_133_0 : tb_I_133_0.all (tb_chk 133) = true := by decide +kernel
set_option maxRecDepth 100000 in
theorem tb_c_133_1 : tb_I_133_1.all (tb_chk 133) = true := by decide +kernel
set_option maxRecDepth 100000 in
theorem tb_c_134_0 : tb_I_134_0.all (tb_chk 134) = true := by decide +kernel
set_option maxRecDepth 100000 in
theorem tb_c_134_1 : tb_I_134_1.all (tb_chk 134) = true := by decide +kernel
set_option maxRecDepth 100000 in
theorem tb_c_135_0 : tb_I_135_0.all (tb_chk 135) = true := by decide +kernel
set_option maxRecDepth 100000 in
theorem tb_c_135_1 : tb_I_135_1.all (tb_chk 135) = true := by decide +kernel
set_option maxRecDepth 100000 in
theorem tb_c_136_0 : tb_I_136_0.all (tb_chk 136) = true := by decide +kernel
set_option maxRecDepth 100000 in
theorem tb_c_137_0 : tb_I_137_0.all (tb_chk 137) = true := by decide +kernel
set_option maxRecDepth 100000 in
theorem tb_c_138_0 : tb_I_138_0.all (tb_chk 138) = true := by decide +kernel
set_option maxRecDepth 100000 in
theorem tb_c_139_0 : tb_I_139_0.all (tb_chk 139) = true := by decide +kernel
set_option maxRecDepth 100000 in
theorem tb_c_140_0 : tb_I_140_0.all (tb_chk 140) = true := by decide +kernel
set_option maxRecDepth 100000 in
theorem tb_c_141_0 : tb_I_141_0.all (tb_chk 141) = true := by decide +kernel
set_option maxRecDepth 100000 in
theorem tb_c_141_1 : tb_I_141_1.all (tb_chk 141) = true := by decide +kernel
set_option maxRecDepth 100000 in
theorem tb_c_142_0 : tb_I_142_0.all (tb_chk 142) = true := by decide +kernel
set_option maxRecDepth 100000 in
theorem tb_c_143_0 : tb_I_143_0.all (tb_chk 143) = true := by decide +kernel
set_option maxRecDepth 100000 in
theorem tb_c_144_0 : tb_I_144_0.all (tb_chk 144) = true := by decide +kernel
set_option maxRecDepth 100000 in
theorem tb_c_145_0 : tb_I_145_0.all (tb_chk 145) = true := by decide +kernel
set_option maxRecDepth 100000 in
theorem tb_c_145_1 : tb_I_145_1.all (tb_chk 145) = true := by decide +kernel
set_option maxRecDepth 100000 in
theorem tb_c_145_2 : tb_I_145_2.all (tb_chk 145) = true := by decide +kernel
set_option maxRecDepth 100000 in
theorem tb_c_145_3 : tb_I_145_3.all (tb_chk 145) = true := by decide +kernel
set_option maxRecDepth 100000 in
theorem tb_c_145_4 : tb_I_145_4.all (tb_chk 145) = true := by decide +kernel
set_option maxRecDepth 100000 in
theorem tb_c_146_0 : tb_I_146_0.all (tb_chk 146) = true := by decide +kernel
set_option maxRecDepth 100000 in
theorem tb_c_147_0 : tb_I_147_0.all (tb_chk 147) = true := by decide +kernel
set_option maxRecDepth 100000 in
theorem tb_c_147_1 : tb_I_147_1.all (tb_chk 147) = true := by decide +kernel
set_option maxRecDepth 100000 in
theorem tb_c_148_0 : tb_I_148_0.all (tb_chk 148) = true := by decide +kernel
set_option maxRecDepth 100000 in
theorem tb_c_149_0 : tb_I_149_0.all (tb_chk 149) = true := by decide +kernel
set_option maxRecDepth 100000 in
theorem tb_c_150_0 : tb_I_150_0.all (tb_chk 150) = true := by decide +kernel
set_option maxRecDepth 100000 in
theorem tb_c_150_1 : tb_I_150_1.all (tb_chk 150) = true := by decide +kernel
set_option maxRecDepth 100000 in
theorem tb_c_150_2 : tb_I_150_2.all (tb_chk 150) = true := by decide +kernel
set_option maxRecDepth 100000 in
theorem tb_c_150_3 : tb_I_150_3.all (tb_chk 150) = true := by decide +kernel
set_option maxRecDepth 100000 in
theorem tb_c_151_0 : tb_I_151_0.all (tb_chk 151) = true := by decide +kernel
set_option maxRecDepth 100000 in
theorem tb_c_151_1 : tb_I_151_1.all (tb_chk 151) = true := by decide +kernel
set_option maxRecDepth 100000 in
theorem tb_c_151_2 : tb_I_151_2.all (tb_chk 151) = true := by decide +kernel
set_option maxRecDepth 100000 in
theorem tb_c_151_3 : tb_I_151_3.all (tb_chk 151) = true := by decide +kernel
set_option maxRecDepth 100000 in
theorem tb_c_152_0 : tb_I_152_0.all (tb_chk 152) = true := by decide +kernel
set_option maxRecDepth 100000 in
theorem tb_c_153_0 : tb_I_153_0.all (tb_chk 153) = true := by decide +kernel
set_option maxRecDepth 100000 in
theorem tb_c_154_0 : tb_I_154_0.all (tb_chk 154) = true := by decide +kernel
set_option maxRecDepth 100000 in
theorem tb_c_154_1 : tb_I_154_1.all (tb_chk 154) = true := by decide +kernel
set_option maxRecDepth 100000 in
theorem tb_c_154_2 : tb_I_154_2.all (tb_chk 154) = true := by decide +kernel
set_option maxRecDepth 100000 in
theorem tb_c_154_3 : tb_I_154_3.all (tb_chk 154) = true := by decide +kernel
set_option maxRecDepth 100000 in
theorem tb_c_155_0 : tb_I_155_0.all (tb_chk 155) = true := by decide +kernel
set_option maxRecDepth 100000 in
theorem tb_c_155_1 : tb_I_155_1.all (tb_chk 155) = true := by decide +kernel
set_option maxRecDepth 100000 in
theorem tb_c_156_0 : tb_I_156_0.all (tb_chk 156) = true := by decide +kernel
set_option maxRecDepth 100000 in
theorem tb_c_157_0 : tb_I_157_0.all (tb_chk 157) = true := by decide +kernel
set_option maxRecDepth 100000 in
theorem tb_c_158_0 : tb_I_158_0.all (tb_chk 158) = true := by decide +kernel
set_option maxRecDepth 100000 in
theorem tb_c_158_1 : tb_I_158_1.all (tb_chk 158) = true := by decide +kernel
set_option maxRecDepth 100000 in
theorem tb_c_158_2 : tb_I_158_2.all (tb_chk 158) = true := by decide +kernel
set_option maxRecDepth 100000 in
theorem tb_c_158_3 : tb_I_158_3.all (tb_chk 158) = true := by decide +kernel
set_option maxRecDepth 100000 in
theorem tb_c_158_4 : tb_I_158_4.all (tb_chk 158) = true := by decide +kernel
set_option maxRecDepth 100000 in
theorem tb_c_159_0 : tb_I_159_0.all (tb_chk 159) = true := by decide +kernel
set_option maxRecDepth 100000 in
theorem tb_c_160_0 : tb_I_160_0.all (tb_chk 160) = true := by decide +kernel
set_option maxRecDepth 100000 in
theorem tb_c_161_0 : tb_I_161_0.all (tb_chk 161) = true := by decide +kernel
set_option maxRecDepth 100000 in
theorem tb_c_161_1 : tb_I_161_1.all (tb_chk 161) = true := by decide +kernel
set_option maxRecDepth 100000 in
theorem tb_c_161_2 : tb_I_161_2.all (tb_chk 161) = true := by decide +kernel
set_option maxRecDepth 100000 in
theorem tb_c_162_0 : tb_I_162_0.all (tb_chk 162) = true := by decide +kernel
set_option maxRecDepth 100000 in
theorem tb_c_162_1 : tb_I_162_1.all (tb_chk 162) = true := by decide +kernel
set_option maxRecDepth 100000 in
theorem tb_c_163_0 : tb_I_163_0.all (tb_chk 163) = true := by decide +kernel
set_option maxRecDepth 100000 in
theorem tb_c_164_0 : tb_I_164_0.all (tb_chk 164) = true := by decide +kernel
set_option maxRecDepth 100000 in
theorem tb_c_164_1 : tb_I_164_1.all (tb_chk 164) = true := by decide +kernel
set_option maxRecDepth 100000 in
theorem tb_c_164_2 : tb_I_164_2.all (tb_chk 164) = true := by decide +kernel
set_option maxRecDepth 100000 in
theorem tb_c_164_3 : tb_I_164_3.all (tb_chk 164) = true := by decide +kernel
set_option maxRecDepth 100000 in
theorem tb_c_165_0 : tb_I_165_0.all (tb_chk 165) = true := by decide +kernel
