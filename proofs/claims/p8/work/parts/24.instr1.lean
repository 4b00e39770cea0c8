/-! The lists are right (1). -/
set_option maxRecDepth 100000 in
theorem tb_c_39_0 : tb_I_39_0.all (tb_chk 39) = true := by decide +kernel
set_option maxRecDepth 100000 in
theorem tb_c_40_0 : tb_I_40_0.all (tb_chk 40) = true := by decide +kernel
set_option maxRecDepth 100000 in
theorem tb_c_41_0 : tb_I_41_0.all (tb_chk 41) = true := by decide +kernel
set_option maxRecDepth 100000 in
theorem tb_c_42_0 : tb_I_42_0.all (tb_chk 42) = true := by decide +kernel
set_option maxRecDepth 100000 in
theorem tb_c_43_0 : tb_I_43_0.all (tb_chk 43) = true := by decide +kernel
set_option maxRecDepth 100000 in
theorem tb_c_44_0 : tb_I_44_0.all (tb_chk 44) = true := by decide +kernel
set_option maxRecDepth 100000 in
theorem tb_c_45_0 : tb_I_45_0.all (tb_chk 45) = true := by decide +kernel
set_option maxRecDepth 100000 in
theorem tb_c_45_1 : tb_I_45_1.all (tb_chk 45) = true := by decide +kernel
set_option maxRecDepth 100000 in
theorem tb_c_46_0 : tb_I_46_0.all (tb_chk 46) = true := by decide +kernel
set_option maxRecDepth 100000 in
theorem tb_c_46_1 : tb_I_46_1.all (tb_chk 46) = true := by decide +kernel
set_option maxRecDepth 100000 in
theorem tb_c_47_0 : tb_I_47_0.all (tb_chk 47) = true := by decide +kernel
set_option maxRecDepth 100000 in
theorem tb_c_47_1 : tb_I_47_1.all (tb_chk 47) = true := by decide +kernel
set_option maxRecDepth 100000 in
theorem tb_c_48_0 : tb_I_48_0.all (tb_chk 48) = true := by decide +kernel
set_option maxRecDepth 100000 in
theorem tb_c_48_1 : tb_I_48_1.all (tb_chk 48) = true := by decide +kernel
set_option maxRecDepth 100000 in
theorem tb_c_49_0 : tb_I_49_0.all (tb_chk 49) = true := by decide +kernel
set_option maxRecDepth 100000 in
theorem tb_c_50_0 : tb_I_50_0.all (tb_chk 50) = true := by decide +kernel
set_option maxRecDepth 100000 in
theorem tb_c_51_0 : tb_I_51_0.all (tb_chk 51) = true := by decide +kernel
set_option maxRecDepth 100000 in
theorem tb_c_52_0 : tb_I_52_0.all (tb_chk 52) = true := by decide +kernel
set_option maxRecDepth 100000 in
theorem tb_c_52_1 : tb_I_52_1.all (tb_chk 52) = true := by decide +kernel
set_option maxRecDepth 100000 in
theorem tb_c_53_0 : tb_I_53_0.all (tb_chk 53) = true := by decide +kernel
set_option maxRecDepth 100000 in
theorem tb_c_54_0 : tb_I_54_0.all (tb_chk 54) = true := by decide +kernel
set_option maxRecDepth 100000 in
theorem tb_c_54_1 : tb_I_54_1.all (tb_chk 54) = true := by decide +kernel
set_option maxRecDepth 100000 in
theorem tb_c_55_0 : tb_I_55_0.all (tb_chk 55) = true := by decide +kernel
set_option maxRecDepth 100000 in
theorem tb_c_56_0 : tb_I_56_0.all (tb_chk 56) = true := by decide +kernel
set_option maxRecDepth 100000 in
theorem tb_c_57_0 : tb_I_57_0.all (tb_chk 57) = true := by decide +kernel
set_option maxRecDepth 100000 in
theorem tb_c_58_0 : tb_I_58_0.all (tb_chk 58) = true := by decide +kernel
set_option maxRecDepth 100000 in
theorem tb_c_58_1 : tb_I_58_1.all (tb_chk 58) = true := by decide +kernel
set_option maxRecDepth 100000 in
theorem tb_c_59_0 : tb_I_59_0.all (tb_chk 59) = true := by decide +kernel
set_option maxRecDepth 100000 in
theorem tb_c_60_0 : tb_I_60_0.all (tb_chk 60) = true := by decide +kernel
set_option maxRecDepth 100000 in
theorem tb_c_61_0 : tb_I_61_0.all (tb_chk 61) = true := by decide +kernel
set_option maxRecDepth 100000 in
theorem tb_c_62_0 : tb_I_62_0.all (tb_chk 62) = true := by decide +kernel
set_option maxRecDepth 100000 in
theorem tb_c_63_0 : tb_I_63_0.all (tb_chk 63) = true := by decide +kernel
set_option maxRecDepth 100000 in
theorem tb_c_64_0 : tb_I_64_0.all (tb_chk 64) = true := by decide +kernel
set_option maxRecDepth 100000 in
theorem tb_c_65_0 : tb_I_65_0.all (tb_chk 65) = true := by decide +kernel
set_option maxRecDepth 100000 in
theorem tb_c_66_0 : tb_I_66_0.all (tb_chk 66) = true := by decide +kernel
set_option maxRecDepth 100000 in
theorem tb_c_67_0 : tb_I_67_0.all (tb_chk 67) = true := by decide +kernel
set_option maxRecDepth 100000 in
theorem tb_c_68_0 : tb_I_68_0.all (tb_chk 68) = true := by decide +kernel
set_option maxRecDepth 100000 in
theorem tb_c_69_0 : tb_I_69_0.all (tb_chk 69) = true := by decide +kernel
set_option maxRecDepth 100000 in
theorem tb_c_70_0 : tb_I_70_0.all (tb_chk 70) = true := by decide +kernel
set_option maxRecDepth 100000 in
theorem tb_c_71_0 : tb_I_71_0.all (tb_chk 71) = true := by decide +kernel
set_option maxRecDepth 100000 in
theorem tb_c_72_0 : tb_I_72_0.all (tb_chk 72) = true := by decide +kernel
set_option maxRecDepth 100000 in
theorem tb_c_73_0 : tb_I_73_0.all (tb_chk 73) = true := by decide +kernel
set_option maxRecDepth 100000 in
theorem tb_c_74_0 : tb_I_74_0.all (tb_chk 74) = true := by decide +kernel
set_option maxRecDepth 100000 in
theorem tb_c_75_0 : tb_I_75_0.all (tb_chk 75) = true := by decide +kernel
set_option maxRecDepth 100000 in
theorem tb_c_76_0 : tb_I_76_0.all (tb_chk 76) = true := by decide +kernel
set_option maxRecDepth 100000 in
theorem tb_c_77_0 : tb_I_77_0.all (tb_chk 77) = true := by decide +kernel
set_option maxRecDepth 100000 in
theorem tb_c_78_0 : tb_I_78_0.all (tb_chk 78) = true := by decide +kernel
set_option maxRecDepth 100000 in
theorem tb_c_79_0 : tb_I_79_0.all (tb_chk 79) = true := by decide +kernel
set_option maxRecDepth 100000 in
theorem tb_c_80_0 : tb_I_80_0.all (tb_chk 80) = true := by decide +kernel
set_option maxRecDepth 100000 in
theorem tb_c_81_0 : tb_I_81_0.all (tb_chk 81) = true := by decide +kernel
set_option maxRecDepth 100000 in
theorem tb_c_81_1 : tb_I_81_1.all (tb_chk 81) = true := by decide +kernel
set_option maxRecDepth 100000 in
theorem tb_c_82_0 : tb_I_82_0.all (tb_chk 82) = true := by decide +kernel
set_option maxRecDepth 100000 in
theorem tb_c_82_1 : tb_I_82_1.all (tb_chk 82) = true := by decide +kernel
set_option maxRecDepth 100000 in
theorem tb_c_83_0 : tb_I_83_0.all (tb_chk 83) = true := by decide +kernel
set_option maxRecDepth 100000 in
theorem tb_c_84_0 : tb_I_84_0.all (tb_chk 84) = true := by decide +kernel
set_option maxRecDepth 100000 in
theorem tb_c_84_1 : tb_I_84_1.all (tb_chk 84) = true := by decide +kernel
set_option maxRecDepth 100000 in
theorem tb_c_85_0 : tb_I_85_0.all (tb_chk 85) = true := by decide +kernel
set_option maxRecDepth 100000 in
theorem tb_c_86_0 : tb_I_86_0.all (tb_chk 86) = true := by decide +kernel
set_option maxRecDepth 100000 in
theorem tb_c_86_1 : tb_I_86_1.all (tb_chk 86) = true := by decide +kernel
set_option maxRecDepth 100000 in
theorem tb_c_87_0 : tb_I_87_0.all (tb_chk 87) = true := by decide +kernel
set_option maxRecDepth 100000 in
theorem tb_c_88_0 : tb_I_88_0.all (tb_chk 88) = true := by decide +kernel
set_option maxRecDepth 100000 in
theorem tb_c_89_0 : tb_I_89_0.all (tb_chk 89) = true := by decide +kernel
