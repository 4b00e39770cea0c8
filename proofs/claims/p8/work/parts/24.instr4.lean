/-! The lists are right (4). -/
set_option maxRecDepth 100000 in
theorem tb_c_166_0 : tb_I_166_0.all (tb_chk 166) = true := by decide +kernel
set_option maxRecDepth 100000 in
theorem tb_c_167_0 : tb_I_167_0.all (tb_chk 167) = true := by decide +kernel
set_option maxRecDepth 100000 in
theorem tb_c_167_1 : tb_I_167_1.all (tb_chk 167) = true := by decide +kernel
set_option maxRecDepth 100000 in
theorem tb_c_167_2 : tb_I_167_2.all (tb_chk 167) = true := by decide +kernel
set_option maxRecDepth 100000 in
theorem tb_c_167_3 : tb_I_167_3.all (tb_chk 167) = true := by decide +kernel
set_option maxRecDepth 100000 in
theorem tb_c_168_0 : tb_I_168_0.all (tb_chk 168) = true := by decide +kernel
set_option maxRecDepth 100000 in
theorem tb_c_168_1 : tb_I_168_1.all (tb_chk 168) = true := by decide +kernel
set_option maxRecDepth 100000 in
theorem tb_c_168_2 : tb_I_168_2.all (tb_chk 168) = true := by decide +kernel
set_option maxRecDepth 100000 in
theorem tb_c_168_3 : tb_I_168_3.all (tb_chk 168) = true := by decide +kernel
set_option maxRecDepth 100000 in
theorem tb_c_169_0 : tb_I_169_0.all (tb_chk 169) = true := by decide +kernel
set_option maxRecDepth 100000 in
theorem tb_c_170_0 : tb_I_170_0.all (tb_chk 170) = true := by decide +kernel
set_option maxRecDepth 100000 in
theorem tb_c_171_0 : tb_I_171_0.all (tb_chk 171) = true := by decide +kernel
set_option maxRecDepth 100000 in
theorem tb_c_171_1 : tb_I_171_1.all (tb_chk 171) = true := by decide +kernel
set_option maxRecDepth 100000 in
theorem tb_c_171_2 : tb_I_171_2.all (tb_chk 171) = true := by decide +kernel
set_option maxRecDepth 100000 in
theorem tb_c_171_3 : tb_I_171_3.all (tb_chk 171) = true := by decide +kernel
set_option maxRecDepth 100000 in
theorem tb_c_172_0 : tb_I_172_0.all (tb_chk 172) = true := by decide +kernel
set_option maxRecDepth 100000 in
theorem tb_c_172_1 : tb_I_172_1.all (tb_chk 172) = true := by decide +kernel
set_option maxRecDepth 100000 in
theorem tb_c_172_2 : tb_I_172_2.all (tb_chk 172) = true := by decide +kernel
set_option maxRecDepth 100000 in
theorem tb_c_173_0 : tb_I_173_0.all (tb_chk 173) = true := by decide +kernel
set_option maxRecDepth 100000 in
theorem tb_c_173_1 : tb_I_173_1.all (tb_chk 173) = true := by decide +kernel
set_option maxRecDepth 100000 in
theorem tb_c_173_2 : tb_I_173_2.all (tb_chk 173) = true := by decide +kernel
set_option maxRecDepth 100000 in
theorem tb_c_173_3 : tb_I_173_3.all (tb_chk 173) = true := by decide +kernel
set_option maxRecDepth 100000 in
theorem tb_c_173_4 : tb_I_173_4.all (tb_chk 173) = true := by decide +kernel
set_option maxRecDepth 100000 in
theorem tb_c_173_5 : tb_I_173_5.all (tb_chk 173) = true := by decide +kernel
set_option maxRecDepth 100000 in
theorem tb_c_174_0 : tb_I_174_0.all (tb_chk 174) = true := by decide +kernel
set_option maxRecDepth 100000 in
theorem tb_c_175_0 : tb_I_175_0.all (tb_chk 175) = true := by decide +kernel
set_option maxRecDepth 100000 in
theorem tb_c_175_1 : tb_I_175_1.all (tb_chk 175) = true := by decide +kernel
set_option maxRecDepth 100000 in
theorem tb_c_176_0 : tb_I_176_0.all (tb_chk 176) = true := by decide +kernel
set_option maxRecDepth 100000 in
theorem tb_c_177_0 : tb_I_177_0.all (tb_chk 177) = true := by decide +kernel
set_option maxRecDepth 100000 in
theorem tb_c_178_0 : tb_I_178_0.all (tb_chk 178) = true := by decide +kernel
set_option maxRecDepth 100000 in
theorem tb_c_179_0 : tb_I_179_0.all (tb_chk 179) = true := by decide +kernel
set_option maxRecDepth 100000 in
theorem tb_c_179_1 : tb_I_179_1.all (tb_chk 179) = true := by decide +kernel
set_option maxRecDepth 100000 in
theorem tb_c_179_2 : tb_I_179_2.all (tb_chk 179) = true := by decide +kernel
set_option maxRecDepth 100000 in
theorem tb_c_179_3 : tb_I_179_3.all (tb_chk 179) = true := by decide +kernel
set_option maxRecDepth 100000 in
theorem tb_c_179_4 : tb_I_179_4.all (tb_chk 179) = true := by decide +kernel
set_option maxRecDepth 100000 in
theorem tb_c_180_0 : tb_I_180_0.all (tb_chk 180) = true := by decide +kernel
set_option maxRecDepth 100000 in
theorem tb_c_180_1 : tb_I_180_1.all (tb_chk 180) = true := by decide +kernel
set_option maxRecDepth 100000 in
theorem tb_c_180_2 : tb_I_180_2.all (tb_chk 180) = true := by decide +kernel
set_option maxRecDepth 100000 in
theorem tb_c_180_3 : tb_I_180_3.all (tb_chk 180) = true := by decide +kernel
set_option maxRecDepth 100000 in
theorem tb_c_181_0 : tb_I_181_0.all (tb_chk 181) = true := by decide +kernel
set_option maxRecDepth 100000 in
theorem tb_c_181_1 : tb_I_181_1.all (tb_chk 181) = true := by decide +kernel
set_option maxRecDepth 100000 in
theorem tb_c_181_2 : tb_I_181_2.all (tb_chk 181) = true := by decide +kernel
set_option maxRecDepth 100000 in
theorem tb_c_181_3 : tb_I_181_3.all (tb_chk 181) = true := by decide +kernel
set_option maxRecDepth 100000 in
theorem tb_c_182_0 : tb_I_182_0.all (tb_chk 182) = true := by decide +kernel
set_option maxRecDepth 100000 in
theorem tb_c_183_0 : tb_I_183_0.all (tb_chk 183) = true := by decide +kernel
set_option maxRecDepth 100000 in
theorem tb_c_183_1 : tb_I_183_1.all (tb_chk 183) = true := by decide +kernel
set_option maxRecDepth 100000 in
theorem tb_c_183_2 : tb_I_183_2.all (tb_chk 183) = true := by decide +kernel
set_option maxRecDepth 100000 in
theorem tb_c_183_3 : tb_I_183_3.all (tb_chk 183) = true := by decide +kernel
set_option maxRecDepth 100000 in
theorem tb_c_183_4 : tb_I_183_4.all (tb_chk 183) = true := by decide +kernel
set_option maxRecDepth 100000 in
theorem tb_c_183_5 : tb_I_183_5.all (tb_chk 183) = true := by decide +kernel
set_option maxRecDepth 100000 in
theorem tb_c_183_6 : tb_I_183_6.all (tb_chk 183) = true := by decide +kernel
set_option maxRecDepth 100000 in
theorem tb_c_183_7 : tb_I_183_7.all (tb_chk 183) = true := by decide +kernel
set_option maxRecDepth 100000 in
theorem tb_c_184_0 : tb_I_184_0.all (tb_chk 184) = true := by decide +kernel
set_option maxRecDepth 100000 in
theorem tb_c_184_1 : tb_I_184_1.all (tb_chk 184) = true := by decide +kernel
set_option maxRecDepth 100000 in
theorem tb_c_184_2 : tb_I_184_2.all (tb_chk 184) = true := by decide +kernel
set_option maxRecDepth 100000 in
theorem tb_c_184_3 : tb_I_184_3.all (tb_chk 184) = true := by decide +kernel
set_option maxRecDepth 100000 in
theorem tb_c_185_0 : tb_I_185_0.all (tb_chk 185) = true := by decide +kernel
set_option maxRecDepth 100000 in
theorem tb_c_186_0 : tb_I_186_0.all (tb_chk 186) = true := by decide +kernel
set_option maxRecDepth 100000 in
theorem tb_c_187_0 : tb_I_187_0.all (tb_chk 187) = true := by decide +kernel
set_option maxRecDepth 100000 in
theorem tb_c_188_0 : tb_I_188_0.all (tb_chk 188) = true := by decide +kernel
set_option maxRecDepth 100000 in
theorem tb_c_189_0 : tb_I_189_0.all (tb_chk 189) = true := by decide +kernel
set_option maxRecDepth 100000 in
theorem tb_c_189_1 : tb_I_189_1.all (tb_chk 189) = true := by decide +kernel
