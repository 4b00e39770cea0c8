/-! The lists are right (4). -/
set_option maxRecDepth 100000 in
theorem tb_c_163_3 : tb_I_163_3.all (tb_chk 163) = true := by decide +kernel
set_option maxRecDepth 100000 in
theorem tb_c_164_0 : tb_I_164_0.all (tb_chk 164) = true := by decide +kernel
set_option maxRecDepth 100000 in
theorem tb_c_165_0 : tb_I_165_0.all (tb_chk 165) = true := by decide +kernel
set_option maxRecDepth 100000 in
theorem tb_c_166_0 : tb_I_166_0.all (tb_chk 166) = true := by decide +kernel
set_option maxRecDepth 100000 in
theorem tb_c_166_1 : tb_I_166_1.all (tb_chk 166) = true := by decide +kernel
set_option maxRecDepth 100000 in
theorem tb_c_166_2 : tb_I_166_2.all (tb_chk 166) = true := by decide +kernel
set_option maxRecDepth 100000 in
theorem tb_c_166_3 : tb_I_166_3.all (tb_chk 166) = true := by decide +kernel
set_option maxRecDepth 100000 in
theorem tb_c_167_0 : tb_I_167_0.all (tb_chk 167) = true := by decide +kernel
set_option maxRecDepth 100000 in
theorem tb_c_167_1 : tb_I_167_1.all (tb_chk 167) = true := by decide +kernel
set_option maxRecDepth 100000 in
theorem tb_c_167_2 : tb_I_167_2.all (tb_chk 167) = true := by decide +kernel
set_option maxRecDepth 100000 in
theorem tb_c_167_3 : tb_I_167_3.all (tb_chk 167) = true := by decide +kernel
set_option maxRecDepth 100000 in
theorem tb_c_168_0 : tb_I_168_0.all (tb_chk 168) = true := by decide +kernel
set_option maxRecDepth 100000 in
theorem tb_c_169_0 : tb_I_169_0.all (tb_chk 169) = true := by decide +kernel
set_option maxRecDepth 100000 in
theorem tb_c_170_0 : tb_I_170_0.all (tb_chk 170) = true := by decide +kernel
set_option maxRecDepth 100000 in
theorem tb_c_170_1 : tb_I_170_1.all (tb_chk 170) = true := by decide +kernel
set_option maxRecDepth 100000 in
theorem tb_c_170_2 : tb_I_170_2.all (tb_chk 170) = true := by decide +kernel
set_option maxRecDepth 100000 in
theorem tb_c_170_3 : tb_I_170_3.all (tb_chk 170) = true := by decide +kernel
set_option maxRecDepth 100000 in
theorem tb_c_171_0 : tb_I_171_0.all (tb_chk 171) = true := by decide +kernel
set_option maxRecDepth 100000 in
theorem tb_c_171_1 : tb_I_171_1.all (tb_chk 171) = true := by decide +kernel
set_option maxRecDepth 100000 in
theorem tb_c_171_2 : tb_I_171_2.all (tb_chk 171) = true := by decide +kernel
set_option maxRecDepth 100000 in
theorem tb_c_172_0 : tb_I_172_0.all (tb_chk 172) = true := by decide +kernel
set_option maxRecDepth 100000 in
theorem tb_c_172_1 : tb_I_172_1.all (tb_chk 172) = true := by decide +kernel
set_option maxRecDepth 100000 in
theorem tb_c_172_2 : tb_I_172_2.all (tb_chk 172) = true := by decide +kernel
set_option maxRecDepth 100000 in
theorem tb_c_172_3 : tb_I_172_3.all (tb_chk 172) = true := by decide +kernel
set_option maxRecDepth 100000 in
theorem tb_c_172_4 : tb_I_172_4.all (tb_chk 172) = true := by decide +kernel
set_option maxRecDepth 100000 in
theorem tb_c_172_5 : tb_I_172_5.all (tb_chk 172) = true := by decide +kernel
set_option maxRecDepth 100000 in
theorem tb_c_173_0 : tb_I_173_0.all (tb_chk 173) = true := by decide +kernel
set_option maxRecDepth 100000 in
theorem tb_c_174_0 : tb_I_174_0.all (tb_chk 174) = true := by decide +kernel
set_option maxRecDepth 100000 in
theorem tb_c_174_1 : tb_I_174_1.all (tb_chk 174) = true := by decide +kernel
set_option maxRecDepth 100000 in
theorem tb_c_175_0 : tb_I_175_0.all (tb_chk 175) = true := by decide +kernel
set_option maxRecDepth 100000 in
theorem tb_c_176_0 : tb_I_176_0.all (tb_chk 176) = true := by decide +kernel
set_option maxRecDepth 100000 in
theorem tb_c_177_0 : tb_I_177_0.all (tb_chk 177) = true := by decide +kernel
set_option maxRecDepth 100000 in
theorem tb_c_178_0 : tb_I_178_0.all (tb_chk 178) = true := by decide +kernel
set_option maxRecDepth 100000 in
theorem tb_c_178_1 : tb_I_178_1.all (tb_chk 178) = true := by decide +kernel
set_option maxRecDepth 100000 in
theorem tb_c_178_2 : tb_I_178_2.all (tb_chk 178) = true := by decide +kernel
set_option maxRecDepth 100000 in
theorem tb_c_178_3 : tb_I_178_3.all (tb_chk 178) = true := by decide +kernel
set_option maxRecDepth 100000 in
theorem tb_c_178_4 : tb_I_178_4.all (tb_chk 178) = true := by decide +kernel
set_option maxRecDepth 100000 in
theorem tb_c_179_0 : tb_I_179_0.all (tb_chk 179) = true := by decide +kernel
set_option maxRecDepth 100000 in
theorem tb_c_179_1 : tb_I_179_1.all (tb_chk 179) = true := by decide +kernel
set_option maxRecDepth 100000 in
theorem tb_c_179_2 : tb_I_179_2.all (tb_chk 179) = true := by decide +kernel
set_option maxRecDepth 100000 in
theorem tb_c_179_3 : tb_I_179_3.all (tb_chk 179) = true := by decide +kernel
set_option maxRecDepth 100000 in
theorem tb_c_180_0 : tb_I_180_0.all (tb_chk 180) = true := by decide +kernel
set_option maxRecDepth 100000 in
theorem tb_c_180_1 : tb_I_180_1.all (tb_chk 180) = true := by decide +kernel
set_option maxRecDepth 100000 in
theorem tb_c_180_2 : tb_I_180_2.all (tb_chk 180) = true := by decide +kernel
set_option maxRecDepth 100000 in
theorem tb_c_180_3 : tb_I_180_3.all (tb_chk 180) = true := by decide +kernel
set_option maxRecDepth 100000 in
theorem tb_c_181_0 : tb_I_181_0.all (tb_chk 181) = true := by decide +kernel
set_option maxRecDepth 100000 in
theorem tb_c_182_0 : tb_I_182_0.all (tb_chk 182) = true := by decide +kernel
set_option maxRecDepth 100000 in
theorem tb_c_182_1 : tb_I_182_1.all (tb_chk 182) = true := by decide +kernel
set_option maxRecDepth 100000 in
theorem tb_c_182_2 : tb_I_182_2.all (tb_chk 182) = true := by decide +kernel
set_option maxRecDepth 100000 in
theorem tb_c_182_3 : tb_I_182_3.all (tb_chk 182) = true := by decide +kernel
set_option maxRecDepth 100000 in
theorem tb_c_182_4 : tb_I_182_4.all (tb_chk 182) = true := by decide +kernel
set_option maxRecDepth 100000 in
theorem tb_c_182_5 : tb_I_182_5.all (tb_chk 182) = true := by decide +kernel
set_option maxRecDepth 100000 in
theorem tb_c_182_6 : tb_I_182_6.all (tb_chk 182) = true := by decide +kernel
set_option maxRecDepth 100000 in
theorem tb_c_182_7 : tb_I_182_7.all (tb_chk 182) = true := by decide +kernel
set_option maxRecDepth 100000 in
theorem tb_c_183_0 : tb_I_183_0.all (tb_chk 183) = true := by decide +kernel
set_option maxRecDepth 100000 in
theorem tb_c_183_1 : tb_I_183_1.all (tb_chk 183) = true := by decide +kernel
set_option maxRecDepth 100000 in
theorem tb_c_183_2 : tb_I_183_2.all (tb_chk 183) = true := by decide +kernel
set_option maxRecDepth 100000 in
theorem tb_c_183_3 : tb_I_183_3.all (tb_chk 183) = true := by decide +kernel
set_option maxRecDepth 100000 in
theorem tb_c_184_0 : tb_I_184_0.all (tb_chk 184) = true := by decide +kernel
set_option maxRecDepth 100000 in
theorem tb_c_185_0 : tb_I_185_0.all (tb_chk 185) = true := by decide +kernel
set_option maxRecDepth 100000 in
theorem tb_c_186_0 : tb_I_186_0.all (tb_chk 186) = true := by decide +kernel
