/-! The lists are right (0). -/
set_option maxRecDepth 100000 in
theorem tb_c_0_0 : tb_I_0_0.all (tb_chk 0) = true := by decide +kernel
set_option maxRecDepth 100000 in
theorem tb_c_0_1 : tb_I_0_1.all (tb_chk 0) = true := by decide +kernel
set_option maxRecDepth 100000 in
theorem tb_c_0_2 : tb_I_0_2.all (tb_chk 0) = true := by decide +kernel
set_option maxRecDepth 100000 in
theorem tb_c_0_3 : tb_I_0_3.all (tb_chk 0) = true := by decide +kernel
set_option maxRecDepth 100000 in
theorem tb_c_0_4 : tb_I_0_4.all (tb_chk 0) = true := by decide +kernel
set_option maxRecDepth 100000 in
theorem tb_c_0_5 : tb_I_0_5.all (tb_chk 0) = true := by decide +kernel
set_option maxRecDepth 100000 in
theorem tb_c_0_6 : tb_I_0_6.all (tb_chk 0) = true := by decide +kernel
set_option maxRecDepth 100000 in
theorem tb_c_0_7 : tb_I_0_7.all (tb_chk 0) = true := by decide +kernel
set_option maxRecDepth 100000 in
theorem tb_c_0_8 : tb_I_0_8.all (tb_chk 0) = true := by decide +kernel
set_option maxRecDepth 100000 in
theorem tb_c_0_9 : tb_I_0_9.all (tb_chk 0) = true := by decide +kernel
set_option maxRecDepth 100000 in
theorem tb_c_1_0 : tb_I_1_0.all (tb_chk 1) = true := by decide +kernel
set_option maxRecDepth 100000 in
theorem tb_c_1_1 : tb_I_1_1.all (tb_chk 1) = true := by decide +kernel
set_option maxRecDepth 100000 in
theorem tb_c_1_2 : tb_I_1_2.all (tb_chk 1) = true := by decide +kernel
set_option maxRecDepth 100000 in
theorem tb_c_1_3 : tb_I_1_3.all (tb_chk 1) = true := by decide +kernel
set_option maxRecDepth 100000 in
theorem tb_c_2_0 : tb_I_2_0.all (tb_chk 2) = true := by decide +kernel
set_option maxRecDepth 100000 in
theorem tb_c_3_0 : tb_I_3_0.all (tb_chk 3) = true := by decide +kernel
set_option maxRecDepth 100000 in
theorem tb_c_4_0 : tb_I_4_0.all (tb_chk 4) = true := by decide +kernel
set_option maxRecDepth 100000 in
theorem tb_c_5_0 : tb_I_5_0.all (tb_chk 5) = true := by decide +kernel
set_option maxRecDepth 100000 in
theorem tb_c_6_0 : tb_I_6_0.all (tb_chk 6) = true := by decide +kernel
set_option maxRecDepth 100000 in
theorem tb_c_6_1 : tb_I_6_1.all (tb_chk 6) = true := by decide +kernel
set_option maxRecDepth 100000 in
theorem tb_c_7_0 : tb_I_7_0.all (tb_chk 7) = true := by decide +kernel
set_option maxRecDepth 100000 in
theorem tb_c_7_1 : tb_I_7_1.all (tb_chk 7) = true := by decide +kernel
set_option maxRecDepth 100000 in
theorem tb_c_8_0 : tb_I_8_0.all (tb_chk 8) = true := by decide +kernel
set_option maxRecDepth 100000 in
theorem tb_c_9_0 : tb_I_9_0.all (tb_chk 9) = true := by decide +kernel
set_option maxRecDepth 100000 in
theorem tb_c_10_0 : tb_I_10_0.all (tb_chk 10) = true := by decide +kernel
set_option maxRecDepth 100000 in
theorem tb_c_10_1 : tb_I_10_1.all (tb_chk 10) = true := by decide +kernel
set_option maxRecDepth 100000 in
theorem tb_c_11_0 : tb_I_11_0.all (tb_chk 11) = true := by decide +kernel
set_option maxRecDepth 100000 in
theorem tb_c_11_1 : tb_I_11_1.all (tb_chk 11) = true := by decide +kernel
set_option maxRecDepth 100000 in
theorem tb_c_12_0 : tb_I_12_0.all (tb_chk 12) = true := by decide +kernel
set_option maxRecDepth 100000 in
theorem tb_c_13_0 : tb_I_13_0.all (tb_chk 13) = true := by decide +kernel
set_option maxRecDepth 100000 in
theorem tb_c_14_0 : tb_I_14_0.all (tb_chk 14) = true := by decide +kernel
set_option maxRecDepth 100000 in
theorem tb_c_14_1 : tb_I_14_1.all (tb_chk 14) = true := by decide +kernel
set_option maxRecDepth 100000 in
theorem tb_c_15_0 : tb_I_15_0.all (tb_chk 15) = true := by decide +kernel
set_option maxRecDepth 100000 in
theorem tb_c_16_0 : tb_I_16_0.all (tb_chk 16) = true := by decide +kernel
set_option maxRecDepth 100000 in
theorem tb_c_17_0 : tb_I_17_0.all (tb_chk 17) = true := by decide +kernel
set_option maxRecDepth 100000 in
theorem tb_c_17_1 : tb_I_17_1.all (tb_chk 17) = true := by decide +kernel
set_option maxRecDepth 100000 in
theorem tb_c_18_0 : tb_I_18_0.all (tb_chk 18) = true := by decide +kernel
set_option maxRecDepth 100000 in
theorem tb_c_19_0 : tb_I_19_0.all (tb_chk 19) = true := by decide +kernel
set_option maxRecDepth 100000 in
theorem tb_c_20_0 : tb_I_20_0.all (tb_chk 20) = true := by decide +kernel
set_option maxRecDepth 100000 in
theorem tb_c_21_0 : tb_I_21_0.all (tb_chk 21) = true := by decide +kernel
set_option maxRecDepth 100000 in
theorem tb_c_21_1 : tb_I_21_1.all (tb_chk 21) = true := by decide +kernel
set_option maxRecDepth 100000 in
theorem tb_c_21_2 : tb_I_21_2.all (tb_chk 21) = true := by decide +kernel
set_option maxRecDepth 100000 in
theorem tb_c_22_0 : tb_I_22_0.all (tb_chk 22) = true := by decide +kernel
set_option maxRecDepth 100000 in
theorem tb_c_23_0 : tb_I_23_0.all (tb_chk 23) = true := by decide +kernel
set_option maxRecDepth 100000 in
theorem tb_c_24_0 : tb_I_24_0.all (tb_chk 24) = true := by decide +kernel
set_option maxRecDepth 100000 in
theorem tb_c_25_0 : tb_I_25_0.all (tb_chk 25) = true := by decide +kernel
set_option maxRecDepth 100000 in
theorem tb_c_26_0 : tb_I_26_0.all (tb_chk 26) = true := by decide +kernel
set_option maxRecDepth 100000 in
theorem tb_c_27_0 : tb_I_27_0.all (tb_chk 27) = true := by decide +kernel
set_option maxRecDepth 100000 in
theorem tb_c_27_1 : tb_I_27_1.all (tb_chk 27) = true := by decide +kernel
set_option maxRecDepth 100000 in
theorem tb_c_28_0 : tb_I_28_0.all (tb_chk 28) = true := by decide +kernel
set_option maxRecDepth 100000 in
theorem tb_c_29_0 : tb_I_29_0.all (tb_chk 29) = true := by decide +kernel
set_option maxRecDepth 100000 in
theorem tb_c_30_0 : tb_I_30_0.all (tb_chk 30) = true := by decide +kernel
set_option maxRecDepth 100000 in
theorem tb_c_31_0 : tb_I_31_0.all (tb_chk 31) = true := by decide +kernel
set_option maxRecDepth 100000 in
theorem tb_c_31_1 : tb_I_31_1.all (tb_chk 31) = true := by decide +kernel
set_option maxRecDepth 100000 in
theorem tb_c_31_2 : tb_I_31_2.all (tb_chk 31) = true := by decide +kernel
set_option maxRecDepth 100000 in
theorem tb_c_32_0 : tb_I_32_0.all (tb_chk 32) = true := by decide +kernel
set_option maxRecDepth 100000 in
theorem tb_c_33_0 : tb_I_33_0.all (tb_chk 33) = true := by decide +kernel
set_option maxRecDepth 100000 in
theorem tb_c_34_0 : tb_I_34_0.all (tb_chk 34) = true := by decide +kernel
set_option maxRecDepth 100000 in
theorem tb_c_35_0 : tb_I_35_0.all (tb_chk 35) = true := by decide +kernel
set_option maxRecDepth 100000 in
theorem tb_c_36_0 : tb_I_36_0.all (tb_chk 36) = true := by decide +kernel
set_option maxRecDepth 100000 in
theorem tb_c_37_0 : tb_I_37_0.all (tb_chk 37) = true := by decide +kernel
set_option maxRecDepth 100000 in
theorem tb_c_38_0 : tb_I_38_0.all (tb_chk 38) = true := by decide +kernel
