/-! The lists are right (5). -/
set_option maxRecDepth 100000 in
theorem tb_c_189_2 : tb_I_189_2.all (tb_chk 189) = true := by decide +kernel
set_option maxRecDepth 100000 in
theorem tb_c_189_3 : tb_I_189_3.all (tb_chk 189) = true := by decide +kernel
set_option maxRecDepth 100000 in
theorem tb_c_189_4 : tb_I_189_4.all (tb_chk 189) = true := by decide +kernel
set_option maxRecDepth 100000 in
theorem tb_c_190_0 : tb_I_190_0.all (tb_chk 190) = true := by decide +kernel
set_option maxRecDepth 100000 in
theorem tb_c_190_1 : tb_I_190_1.all (tb_chk 190) = true := by decide +kernel
set_option maxRecDepth 100000 in
theorem tb_c_190_2 : tb_I_190_2.all (tb_chk 190) = true := by decide +kernel
set_option maxRecDepth 100000 in
theorem tb_c_190_3 : tb_I_190_3.all (tb_chk 190) = true := by decide +kernel
set_option maxRecDepth 100000 in
theorem tb_c_190_4 : tb_I_190_4.all (tb_chk 190) = true := by decide +kernel
set_option maxRecDepth 100000 in
theorem tb_c_190_5 : tb_I_190_5.all (tb_chk 190) = true := by decide +kernel
set_option maxRecDepth 100000 in
theorem tb_c_191_0 : tb_I_191_0.all (tb_chk 191) = true := by decide +kernel
set_option maxRecDepth 100000 in
theorem tb_c_191_1 : tb_I_191_1.all (tb_chk 191) = true := by decide +kernel
set_option maxRecDepth 100000 in
theorem tb_c_191_2 : tb_I_191_2.all (tb_chk 191) = true := by decide +kernel
set_option maxRecDepth 100000 in
theorem tb_c_191_3 : tb_I_191_3.all (tb_chk 191) = true := by decide +kernel
set_option maxRecDepth 100000 in
theorem tb_c_192_0 : tb_I_192_0.all (tb_chk 192) = true := by decide +kernel
set_option maxRecDepth 100000 in
theorem tb_c_192_1 : tb_I_192_1.all (tb_chk 192) = true := by decide +kernel
set_option maxRecDepth 100000 in
theorem tb_c_192_2 : tb_I_192_2.all (tb_chk 192) = true := by decide +kernel
set_option maxRecDepth 100000 in
theorem tb_c_193_0 : tb_I_193_0.all (tb_chk 193) = true := by decide +kernel
set_option maxRecDepth 100000 in
theorem tb_c_194_0 : tb_I_194_0.all (tb_chk 194) = true := by decide +kernel
set_option maxRecDepth 100000 in
theorem tb_c_194_1 : tb_I_194_1.all (tb_chk 194) = true := by decide +kernel
set_option maxRecDepth 100000 in
theorem tb_c_195_0 : tb_I_195_0.all (tb_chk 195) = true := by decide +kernel
set_option maxRecDepth 100000 in
theorem tb_c_195_1 : tb_I_195_1.all (tb_chk 195) = true := by decide +kernel
set_option maxRecDepth 100000 in
theorem tb_c_195_2 : tb_I_195_2.all (tb_chk 195) = true := by decide +kernel
set_option maxRecDepth 100000 in
theorem tb_c_195_3 : tb_I_195_3.all (tb_chk 195) = true := by decide +kernel
set_option maxRecDepth 100000 in
theorem tb_c_195_4 : tb_I_195_4.all (tb_chk 195) = true := by decide +kernel
set_option maxRecDepth 100000 in
theorem tb_c_196_0 : tb_I_196_0.all (tb_chk 196) = true := by decide +kernel
set_option maxRecDepth 100000 in
theorem tb_c_197_0 : tb_I_197_0.all (tb_chk 197) = true := by decide +kernel
set_option maxRecDepth 100000 in
theorem tb_c_198_0 : tb_I_198_0.all (tb_chk 198) = true := by decide +kernel
set_option maxRecDepth 100000 in
theorem tb_c_199_0 : tb_I_199_0.all (tb_chk 199) = true := by decide +kernel
set_option maxRecDepth 100000 in
theorem tb_c_200_0 : tb_I_200_0.all (tb_chk 200) = true := by decide +kernel
set_option maxRecDepth 100000 in
theorem tb_c_200_1 : tb_I_200_1.all (tb_chk 200) = true := by decide +kernel
set_option maxRecDepth 100000 in
theorem tb_c_200_2 : tb_I_200_2.all (tb_chk 200) = true := by decide +kernel
set_option maxRecDepth 100000 in
theorem tb_c_200_3 : tb_I_200_3.all (tb_chk 200) = true := by decide +kernel
set_option maxRecDepth 100000 in
theorem tb_c_200_4 : tb_I_200_4.all (tb_chk 200) = true := by decide +kernel
set_option maxRecDepth 100000 in
theorem tb_c_200_5 : tb_I_200_5.all (tb_chk 200) = true := by decide +kernel
set_option maxRecDepth 100000 in
theorem tb_c_200_6 : tb_I_200_6.all (tb_chk 200) = true := by decide +kernel
set_option maxRecDepth 100000 in
theorem tb_c_201_0 : tb_I_201_0.all (tb_chk 201) = true := by decide +kernel
set_option maxRecDepth 100000 in
theorem tb_c_202_0 : tb_I_202_0.all (tb_chk 202) = true := by decide +kernel
set_option maxRecDepth 100000 in
theorem tb_c_203_0 : tb_I_203_0.all (tb_chk 203) = true := by decide +kernel
set_option maxRecDepth 100000 in
theorem tb_c_204_0 : tb_I_204_0.all (tb_chk 204) = true := by decide +kernel
set_option maxRecDepth 100000 in
theorem tb_c_205_0 : tb_I_205_0.all (tb_chk 205) = true := by decide +kernel
set_option maxRecDepth 100000 in
theorem tb_c_206_0 : tb_I_206_0.all (tb_chk 206) = true := by decide +kernel
set_option maxRecDepth 100000 in
theorem tb_c_206_1 : tb_I_206_1.all (tb_chk 206) = true := by decide +kernel
set_option maxRecDepth 100000 in
theorem tb_c_206_2 : tb_I_206_2.all (tb_chk 206) = true := by decide +kernel
set_option maxRecDepth 100000 in
theorem tb_c_206_3 : tb_I_206_3.all (tb_chk 206) = true := by decide +kernel
set_option maxRecDepth 100000 in
theorem tb_c_207_0 : tb_I_207_0.all (tb_chk 207) = true := by decide +kernel
set_option maxRecDepth 100000 in
theorem tb_c_208_0 : tb_I_208_0.all (tb_chk 208) = true := by decide +kernel
set_option maxRecDepth 100000 in
theorem tb_c_209_0 : tb_I_209_0.all (tb_chk 209) = true := by decide +kernel
set_option maxRecDepth 100000 in
theorem tb_c_210_0 : tb_I_210_0.all (tb_chk 210) = true := by decide +kernel
set_option maxRecDepth 100000 in
theorem tb_c_211_0 : tb_I_211_0.all (tb_chk 211) = true := by decide +kernel
set_option maxRecDepth 100000 in
theorem tb_c_212_0 : tb_I_212_0.all (tb_chk 212) = true := by decide +kernel
set_option maxRecDepth 100000 in
theorem tb_c_213_0 : tb_I_213_0.all (tb_chk 213) = true := by decide +kernel
set_option maxRecDepth 100000 in
theorem tb_c_214_0 : tb_I_214_0.all (tb_chk 214) = true := by decide +kernel
set_option maxRecDepth 100000 in
theorem tb_c_215_0 : tb_I_215_0.all (tb_chk 215) = true := by decide +kernel
set_option maxRecDepth 100000 in
theorem tb_c_216_0 : tb_I_216_0.all (tb_chk 216) = true := by decide +kernel
set_option maxRecDepth 100000 in
theorem tb_c_217_0 : tb_I_217_0.all (tb_chk 217) = true := by decide +kernel
set_option maxRecDepth 100000 in
theorem tb_c_218_0 : tb_I_218_0.all (tb_chk 218) = true := by decide +kernel
set_option maxRecDepth 100000 in
theorem tb_c_219_0 : tb_I_219_0.all (tb_chk 219) = true := by decide +kernel
set_option maxRecDepth 100000 in
theorem tb_c_220_0 : tb_I_220_0.all (tb_chk 220) = true := by decide +kernel
