/-! The lists together; the world after both constructors. -/
theorem tb_j_0 : tb_ok1 0 = true := by
  have h : tb_ok1 0 = (tb_I_0_9.all (tb_chk 0) && (tb_I_0_8.all (tb_chk 0) && (tb_I_0_7.all (tb_chk 0) && (tb_I_0_6.all (tb_chk 0) && (tb_I_0_5.all (tb_chk 0) && (tb_I_0_4.all (tb_chk 0) && (tb_I_0_3.all (tb_chk 0) && (tb_I_0_2.all (tb_chk 0) && (tb_I_0_1.all (tb_chk 0) && (tb_I_0_0.all (tb_chk 0) && true)))))))))) := rfl
  rw [h, tb_c_0_9, tb_c_0_8, tb_c_0_7, tb_c_0_6, tb_c_0_5, tb_c_0_4, tb_c_0_3, tb_c_0_2, tb_c_0_1, tb_c_0_0]
  rfl
theorem tb_j_1 : tb_ok1 1 = true := by
  have h : tb_ok1 1 = (tb_I_1_3.all (tb_chk 1) && (tb_I_1_2.all (tb_chk 1) && (tb_I_1_1.all (tb_chk 1) && (tb_I_1_0.all (tb_chk 1) && true)))) := rfl
  rw [h, tb_c_1_3, tb_c_1_2, tb_c_1_1, tb_c_1_0]
  rfl
theorem tb_j_2 : tb_ok1 2 = true := by
  have h : tb_ok1 2 = (tb_I_2_0.all (tb_chk 2) && true) := rfl
  rw [h, tb_c_2_0]
  rfl
theorem tb_j_3 : tb_ok1 3 = true := by
  have h : tb_ok1 3 = (tb_I_3_0.all (tb_chk 3) && true) := rfl
  rw [h, tb_c_3_0]
  rfl
theorem tb_j_4 : tb_ok1 4 = true := by
  have h : tb_ok1 4 = (tb_I_4_0.all (tb_chk 4) && true) := rfl
  rw [h, tb_c_4_0]
  rfl
theorem tb_j_5 : tb_ok1 5 = true := by
  have h : tb_ok1 5 = (tb_I_5_0.all (tb_chk 5) && true) := rfl
  rw [h, tb_c_5_0]
  rfl
theorem tb_j_6 : tb_ok1 6 = true := by
  have h : tb_ok1 6 = (tb_I_6_1.all (tb_chk 6) && (tb_I_6_0.all (tb_chk 6) && true)) := rfl
  rw [h, tb_c_6_1, tb_c_6_0]
  rfl
theorem tb_j_7 : tb_ok1 7 = true := by
  have h : tb_ok1 7 = (tb_I_7_1.all (tb_chk 7) && (tb_I_7_0.all (tb_chk 7) && true)) := rfl
  rw [h, tb_c_7_1, tb_c_7_0]
  rfl
theorem tb_j_8 : tb_ok1 8 = true := by
  have h : tb_ok1 8 = (tb_I_8_0.all (tb_chk 8) && true) := rfl
  rw [h, tb_c_8_0]
  rfl
theorem tb_j_9 : tb_ok1 9 = true := by
  have h : tb_ok1 9 = (tb_I_9_0.all (tb_chk 9) && true) := rfl
  rw [h, tb_c_9_0]
  rfl
theorem tb_j_10 : tb_ok1 10 = true := by
  have h : tb_ok1 10 = (tb_I_10_1.all (tb_chk 10) && (tb_I_10_0.all (tb_chk 10) && true)) := rfl
  rw [h, tb_c_10_1, tb_c_10_0]
  rfl
theorem tb_j_11 : tb_ok1 11 = true := by
  have h : tb_ok1 11 = (tb_I_11_1.all (tb_chk 11) && (tb_I_11_0.all (tb_chk 11) && true)) := rfl
  rw [h, tb_c_11_1, tb_c_11_0]
  rfl
theorem tb_j_12 : tb_ok1 12 = true := by
  have h : tb_ok1 12 = (tb_I_12_0.all (tb_chk 12) && true) := rfl
  rw [h, tb_c_12_0]
  rfl
theorem tb_j_13 : tb_ok1 13 = true := by
  have h : tb_ok1 13 = (tb_I_13_0.all (tb_chk 13) && true) := rfl
  rw [h, tb_c_13_0]
  rfl
theorem tb_j_14 : tb_ok1 14 = true := by
  have h : tb_ok1 14 = (tb_I_14_1.all (tb_chk 14) && (tb_I_14_0.all (tb_chk 14) && true)) := rfl
  rw [h, tb_c_14_1, tb_c_14_0]
  rfl
theorem tb_j_15 : tb_ok1 15 = true := by
  have h : tb_ok1 15 = (tb_I_15_0.all (tb_chk 15) && true) := rfl
  rw [h, tb_c_15_0]
  rfl
theorem tb_j_16 : tb_ok1 16 = true := by
  have h : tb_ok1 16 = (tb_I_16_0.all (tb_chk 16) && true) := rfl
  rw [h, tb_c_16_0]
  rfl
theorem tb_j_17 : tb_ok1 17 = true := by
  have h : tb_ok1 17 = (tb_I_17_1.all (tb_chk 17) && (tb_I_17_0.all (tb_chk 17) && true)) := rfl
  rw [h, tb_c_17_1, tb_c_17_0]
  rfl
theorem tb_j_18 : tb_ok1 18 = true := by
  have h : tb_ok1 18 = (tb_I_18_0.all (tb_chk 18) && true) := rfl
  rw [h, tb_c_18_0]
  rfl
theorem tb_j_19 : tb_ok1 19 = true := by
  have h : tb_ok1 19 = (tb_I_19_0.all (tb_chk 19) && true) := rfl
  rw [h, tb_c_19_0]
  rfl
theorem tb_j_20 : tb_ok1 20 = true := by
  have h : tb_ok1 20 = (tb_I_20_0.all (tb_chk 20) && true) := rfl
  rw [h, tb_c_20_0]
  rfl
theorem tb_j_21 : tb_ok1 21 = true := by
  have h : tb_ok1 21 = (tb_I_21_2.all (tb_chk 21) && (tb_I_21_1.all (tb_chk 21) && (tb_I_21_0.all (tb_chk 21) && true))) := rfl
  rw [h, tb_c_21_2, tb_c_21_1, tb_c_21_0]
  rfl
theorem tb_j_22 : tb_ok1 22 = true := by
  have h : tb_ok1 22 = (tb_I_22_0.all (tb_chk 22) && true) := rfl
  rw [h, tb_c_22_0]
  rfl
theorem tb_j_23 : tb_ok1 23 = true := by
  have h : tb_ok1 23 = (tb_I_23_0.all (tb_chk 23) && true) := rfl
  rw [h, tb_c_23_0]
  rfl
theorem tb_j_24 : tb_ok1 24 = true := by
  have h : tb_ok1 24 = (tb_I_24_0.all (tb_chk 24) && true) := rfl
  rw [h, tb_c_24_0]
  rfl
theorem tb_j_25 : tb_ok1 25 = true := by
  have h : tb_ok1 25 = (tb_I_25_0.all (tb_chk 25) && true) := rfl
  rw [h, tb_c_25_0]
  rfl
theorem tb_j_26 : tb_ok1 26 = true := by
  have h : tb_ok1 26 = (tb_I_26_0.all (tb_chk 26) && true) := rfl
  rw [h, tb_c_26_0]
  rfl
theorem tb_j_27 : tb_ok1 27 = true := by
  have h : tb_ok1 27 = (tb_I_27_1.all (tb_chk 27) && (tb_I_27_0.all (tb_chk 27) && true)) := rfl
  rw [h, tb_c_27_1, tb_c_27_0]
  rfl
theorem tb_j_28 : tb_ok1 28 = true := by
  have h : tb_ok1 28 = (tb_I_28_0.all (tb_chk 28) && true) := rfl
  rw [h, tb_c_28_0]
  rfl
theorem tb_j_29 : tb_ok1 29 = true := by
  have h : tb_ok1 29 = (tb_I_29_0.all (tb_chk 29) && true) := rfl
  rw [h, tb_c_29_0]
  rfl
theorem tb_j_30 : tb_ok1 30 = true := by
  have h : tb_ok1 30 = (tb_I_30_0.all (tb_chk 30) && true) := rfl
  rw [h, tb_c_30_0]
  rfl
theorem tb_j_31 : tb_ok1 31 = true := by
  have h : tb_ok1 31 = (tb_I_31_2.all (tb_chk 31) && (tb_I_31_1.all (tb_chk 31) && (tb_I_31_0.all (tb_chk 31) && true))) := rfl
  rw [h, tb_c_31_2, tb_c_31_1, tb_c_31_0]
  rfl
theorem tb_j_32 : tb_ok1 32 = true := by
  have h : tb_ok1 32 = (tb_I_32_0.all (tb_chk 32) && true) := rfl
  rw [h, tb_c_32_0]
  rfl
theorem tb_j_33 : tb_ok1 33 = true := by
  have h : tb_ok1 33 = (tb_I_33_0.all (tb_chk 33) && true) := rfl
  rw [h, tb_c_33_0]
  rfl
theorem tb_j_34 : tb_ok1 34 = true := by
  have h : tb_ok1 34 = (tb_I_34_0.all (tb_chk 34) && true) := rfl
  rw [h, tb_c_34_0]
  rfl
theorem tb_j_35 : tb_ok1 35 = true := by
  have h : tb_ok1 35 = (tb_I_35_0.all (tb_chk 35) && true) := rfl
  rw [h, tb_c_35_0]
  rfl
theorem tb_j_36 : tb_ok1 36 = true := by
  have h : tb_ok1 36 = (tb_I_36_0.all (tb_chk 36) && true) := rfl
  rw [h, tb_c_36_0]
  rfl
theorem tb_j_37 : tb_ok1 37 = true := by
  have h : tb_ok1 37 = (tb_I_37_0.all (tb_chk 37) && true) := rfl
  rw [h, tb_c_37_0]
  rfl
theorem tb_j_38 : tb_ok1 38 = true := by
  have h : tb_ok1 38 = (tb_I_38_0.all (tb_chk 38) && true) := rfl
  rw [h, tb_c_38_0]
  rfl
theorem tb_j_39 : tb_ok1 39 = true := by
  have h : tb_ok1 39 = (tb_I_39_0.all (tb_chk 39) && true) := rfl
  rw [h, tb_c_39_0]
  rfl
theorem tb_j_40 : tb_ok1 40 = true := by
  have h : tb_ok1 40 = (tb_I_40_0.all (tb_chk 40) && true) := rfl
  rw [h, tb_c_40_0]
  rfl
theorem tb_j_41 : tb_ok1 41 = true := by
  have h : tb_ok1 41 = (tb_I_41_0.all (tb_chk 41) && true) := rfl
  rw [h, tb_c_41_0]
  rfl
theorem tb_j_42 : tb_ok1 42 = true := by
  have h : tb_ok1 42 = (tb_I_42_0.all (tb_chk 42) && true) := rfl
  rw [h, tb_c_42_0]
  rfl
theorem tb_j_43 : tb_ok1 43 = true := by
  have h : tb_ok1 43 = (tb_I_43_0.all (tb_chk 43) && true) := rfl
  rw [h, tb_c_43_0]
  rfl
theorem tb_j_44 : tb_ok1 44 = true := by
  have h : tb_ok1 44 = (tb_I_44_0.all (tb_chk 44) && true) := rfl
  rw [h, tb_c_44_0]
  rfl
theorem tb_j_45 : tb_ok1 45 = true := by
  have h : tb_ok1 45 = (tb_I_45_1.all (tb_chk 45) && (tb_I_45_0.all (tb_chk 45) && true)) := rfl
  rw [h, tb_c_45_1, tb_c_45_0]
  rfl
theorem tb_j_46 : tb_ok1 46 = true := by
  have h : tb_ok1 46 = (tb_I_46_1.all (tb_chk 46) && (tb_I_46_0.all (tb_chk 46) && true)) := rfl
  rw [h, tb_c_46_1, tb_c_46_0]
  rfl
theorem tb_j_47 : tb_ok1 47 = true := by
  have h : tb_ok1 47 = (tb_I_47_1.all (tb_chk 47) && (tb_I_47_0.all (tb_chk 47) && true)) := rfl
  rw [h, tb_c_47_1, tb_c_47_0]
  rfl
theorem tb_j_48 : tb_ok1 48 = true := by
  have h : tb_ok1 48 = (tb_I_48_1.all (tb_chk 48) && (tb_I_48_0.all (tb_chk 48) && true)) := rfl
  rw [h, tb_c_48_1, tb_c_48_0]
  rfl
theorem tb_j_49 : tb_ok1 49 = true := by
  have h : tb_ok1 49 = (tb_I_49_0.all (tb_chk 49) && true) := rfl
  rw [h, tb_c_49_0]
  rfl
theorem tb_j_50 : tb_ok1 50 = true := by
  have h : tb_ok1 50 = (tb_I_50_0.all (tb_chk 50) && true) := rfl
  rw [h, tb_c_50_0]
  rfl
theorem tb_j_51 : tb_ok1 51 = true := by
  have h : tb_ok1 51 = (tb_I_51_0.all (tb_chk 51) && true) := rfl
  rw [h, tb_c_51_0]
  rfl
theorem tb_j_52 : tb_ok1 52 = true := by
  have h : tb_ok1 52 = (tb_I_52_1.all (tb_chk 52) && (tb_I_52_0.all (tb_chk 52) && true)) := rfl
  rw [h, tb_c_52_1, tb_c_52_0]
  rfl
theorem tb_j_53 : tb_ok1 53 = true := by
  have h : tb_ok1 53 = (tb_I_53_0.all (tb_chk 53) && true) := rfl
  rw [h, tb_c_53_0]
  rfl
theorem tb_j_54 : tb_ok1 54 = true := by
  have h : tb_ok1 54 = (tb_I_54_1.all (tb_chk 54) && (tb_I_54_0.all (tb_chk 54) && true)) := rfl
  rw [h, tb_c_54_1, tb_c_54_0]
  rfl
theorem tb_j_55 : tb_ok1 55 = true := by
  have h : tb_ok1 55 = (tb_I_55_0.all (tb_chk 55) && true) := rfl
  rw [h, tb_c_55_0]
  rfl
theorem tb_j_56 : tb_ok1 56 = true := by
  have h : tb_ok1 56 = (tb_I_56_0.all (tb_chk 56) && true) := rfl
  rw [h, tb_c_56_0]
  rfl
theorem tb_j_57 : tb_ok1 57 = true := by
  have h : tb_ok1 57 = (tb_I_57_0.all (tb_chk 57) && true) := rfl
  rw [h, tb_c_57_0]
  rfl
theorem tb_j_58 : tb_ok1 58 = true := by
  have h : tb_ok1 58 = (tb_I_58_1.all (tb_chk 58) && (tb_I_58_0.all (tb_chk 58) && true)) := rfl
  rw [h, tb_c_58_1, tb_c_58_0]
  rfl
theorem tb_j_59 : tb_ok1 59 = true := by
  have h : tb_ok1 59 = (tb_I_59_0.all (tb_chk 59) && true) := rfl
  rw [h, tb_c_59_0]
  rfl
theorem tb_j_60 : tb_ok1 60 = true := by
  have h : tb_ok1 60 = (tb_I_60_0.all (tb_chk 60) && true) := rfl
  rw [h, tb_c_60_0]
  rfl
theorem tb_j_61 : tb_ok1 61 = true := by
  have h : tb_ok1 61 = (tb_I_61_0.all (tb_chk 61) && true) := rfl
  rw [h, tb_c_61_0]
  rfl
theorem tb_j_62 : tb_ok1 62 = true := by
  have h : tb_ok1 62 = (tb_I_62_0.all (tb_chk 62) && true) := rfl
  rw [h, tb_c_62_0]
  rfl
theorem tb_j_63 : tb_ok1 63 = true := by
  have h : tb_ok1 63 = (tb_I_63_0.all (tb_chk 63) && true) := rfl
  rw [h, tb_c_63_0]
  rfl
theorem tb_j_64 : tb_ok1 64 = true := by
  have h : tb_ok1 64 = (tb_I_64_0.all (tb_chk 64) && true) := rfl
  rw [h, tb_c_64_0]
  rfl
theorem tb_j_65 : tb_ok1 65 = true := by
  have h : tb_ok1 65 = (tb_I_65_0.all (tb_chk 65) && true) := rfl
  rw [h, tb_c_65_0]
  rfl
theorem tb_j_66 : tb_ok1 66 = true := by
  have h : tb_ok1 66 = (tb_I_66_0.all (tb_chk 66) && true) := rfl
  rw [h, tb_c_66_0]
  rfl
theorem tb_j_67 : tb_ok1 67 = true := by
  have h : tb_ok1 67 = (tb_I_67_0.all (tb_chk 67) && true) := rfl
  rw [h, tb_c_67_0]
  rfl
theorem tb_j_68 : tb_ok1 68 = true := by
  have h : tb_ok1 68 = (tb_I_68_0.all (tb_chk 68) && true) := rfl
  rw [h, tb_c_68_0]
  rfl
theorem tb_j_69 : tb_ok1 69 = true := by
  have h : tb_ok1 69 = (tb_I_69_0.all (tb_chk 69) && true) := rfl
  rw [h, tb_c_69_0]
  rfl
theorem tb_j_70 : tb_ok1 70 = true := by
  have h : tb_ok1 70 = (tb_I_70_0.all (tb_chk 70) && true) := rfl
  rw [h, tb_c_70_0]
  rfl
theorem tb_j_71 : tb_ok1 71 = true := by
  have h : tb_ok1 71 = (tb_I_71_0.all (tb_chk 71) && true) := rfl
  rw [h, tb_c_71_0]
  rfl
theorem tb_j_72 : tb_ok1 72 = true := by
  have h : tb_ok1 72 = (tb_I_72_0.all (tb_chk 72) && true) := rfl
  rw [h, tb_c_72_0]
  rfl
theorem tb_j_73 : tb_ok1 73 = true := by
  have h : tb_ok1 73 = (tb_I_73_0.all (tb_chk 73) && true) := rfl
  rw [h, tb_c_73_0]
  rfl
theorem tb_j_74 : tb_ok1 74 = true := by
  have h : tb_ok1 74 = (tb_I_74_0.all (tb_chk 74) && true) := rfl
  rw [h, tb_c_74_0]
  rfl
theorem tb_j_75 : tb_ok1 75 = true := by
  have h : tb_ok1 75 = (tb_I_75_0.all (tb_chk 75) && true) := rfl
  rw [h, tb_c_75_0]
  rfl
theorem tb_j_76 : tb_ok1 76 = true := by
  have h : tb_ok1 76 = (tb_I_76_0.all (tb_chk 76) && true) := rfl
  rw [h, tb_c_76_0]
  rfl
theorem tb_j_77 : tb_ok1 77 = true := by
  have h : tb_ok1 77 = (tb_I_77_0.all (tb_chk 77) && true) := rfl
  rw [h, tb_c_77_0]
  rfl
theorem tb_j_78 : tb_ok1 78 = true := by
  have h : tb_ok1 78 = (tb_I_78_0.all (tb_chk 78) && true) := rfl
  rw [h, tb_c_78_0]
  rfl
theorem tb_j_79 : tb_ok1 79 = true := by
  have h : tb_ok1 79 = (tb_I_79_0.all (tb_chk 79) && true) := rfl
  rw [h, tb_c_79_0]
  rfl
theorem tb_j_80 : tb_ok1 80 = true := by
  have h : tb_ok1 80 = (tb_I_80_0.all (tb_chk 80) && true) := rfl
  rw [h, tb_c_80_0]
  rfl
theorem tb_j_81 : tb_ok1 81 = true := by
  have h : tb_ok1 81 = (tb_I_81_1.all (tb_chk 81) && (tb_I_81_0.all (tb_chk 81) && true)) := rfl
  rw [h, tb_c_81_1, tb_c_81_0]
  rfl
theorem tb_j_82 : tb_ok1 82 = true := by
  have h : tb_ok1 82 = (tb_I_82_1.all (tb_chk 82) && (tb_I_82_0.all (tb_chk 82) && true)) := rfl
  rw [h, tb_c_82_1, tb_c_82_0]
  rfl
theorem tb_j_83 : tb_ok1 83 = true := by
  have h : tb_ok1 83 = (tb_I_83_0.all (tb_chk 83) && true) := rfl
  rw [h, tb_c_83_0]
  rfl
theorem tb_j_84 : tb_ok1 84 = true := by
  have h : tb_ok1 84 = (tb_I_84_1.all (tb_chk 84) && (tb_I_84_0.all (tb_chk 84) && true)) := rfl
  rw [h, tb_c_84_1, tb_c_84_0]
  rfl
theorem tb_j_85 : tb_ok1 85 = true := by
  have h : tb_ok1 85 = (tb_I_85_0.all (tb_chk 85) && true) := rfl
  rw [h, tb_c_85_0]
  rfl
theorem tb_j_86 : tb_ok1 86 = true := by
  have h : tb_ok1 86 = (tb_I_86_1.all (tb_chk 86) && (tb_I_86_0.all (tb_chk 86) && true)) := rfl
  rw [h, tb_c_86_1, tb_c_86_0]
  rfl
theorem tb_j_87 : tb_ok1 87 = true := by
  have h : tb_ok1 87 = (tb_I_87_0.all (tb_chk 87) && true) := rfl
  rw [h, tb_c_87_0]
  rfl
theorem tb_j_88 : tb_ok1 88 = true := by
  have h : tb_ok1 88 = (tb_I_88_0.all (tb_chk 88) && true) := rfl
  rw [h, tb_c_88_0]
  rfl
theorem tb_j_89 : tb_ok1 89 = true := by
  have h : tb_ok1 89 = (tb_I_89_0.all (tb_chk 89) && true) := rfl
  rw [h, tb_c_89_0]
  rfl
theorem tb_j_90 : tb_ok1 90 = true := by
  have h : tb_ok1 90 = (tb_I_90_0.all (tb_chk 90) && true) := rfl
  rw [h, tb_c_90_0]
  rfl
theorem tb_j_91 : tb_ok1 91 = true := by
  have h : tb_ok1 91 = (tb_I_91_0.all (tb_chk 91) && true) := rfl
  rw [h, tb_c_91_0]
  rfl
theorem tb_j_92 : tb_ok1 92 = true := by
  have h : tb_ok1 92 = (tb_I_92_0.all (tb_chk 92) && true) := rfl
  rw [h, tb_c_92_0]
  rfl
theorem tb_j_93 : tb_ok1 93 = true := by
  have h : tb_ok1 93 = (tb_I_93_1.all (tb_chk 93) && (tb_I_93_0.all (tb_chk 93) && true)) := rfl
  rw [h, tb_c_93_1, tb_c_93_0]
  rfl
theorem tb_j_94 : tb_ok1 94 = true := by
  have h : tb_ok1 94 = (tb_I_94_1.all (tb_chk 94) && (tb_I_94_0.all (tb_chk 94) && true)) := rfl
  rw [h, tb_c_94_1, tb_c_94_0]
  rfl
theorem tb_j_95 : tb_ok1 95 = true := by
  have h : tb_ok1 95 = (tb_I_95_0.all (tb_chk 95) && true) := rfl
  rw [h, tb_c_95_0]
  rfl
theorem tb_j_96 : tb_ok1 96 = true := by
  have h : tb_ok1 96 = (tb_I_96_0.all (tb_chk 96) && true) := rfl
  rw [h, tb_c_96_0]
  rfl
theorem tb_j_97 : tb_ok1 97 = true := by
  have h : tb_ok1 97 = (tb_I_97_1.all (tb_chk 97) && (tb_I_97_0.all (tb_chk 97) && true)) := rfl
  rw [h, tb_c_97_1, tb_c_97_0]
  rfl
theorem tb_j_98 : tb_ok1 98 = true := by
  have h : tb_ok1 98 = (tb_I_98_2.all (tb_chk 98) && (tb_I_98_1.all (tb_chk 98) && (tb_I_98_0.all (tb_chk 98) && true))) := rfl
  rw [h, tb_c_98_2, tb_c_98_1, tb_c_98_0]
  rfl
theorem tb_j_99 : tb_ok1 99 = true := by
  have h : tb_ok1 99 = (tb_I_99_1.all (tb_chk 99) && (tb_I_99_0.all (tb_chk 99) && true)) := rfl
  rw [h, tb_c_99_1, tb_c_99_0]
  rfl
theorem tb_j_100 : tb_ok1 100 = true := by
  have h : tb_ok1 100 = (tb_I_100_2.all (tb_chk 100) && (tb_I_100_1.all (tb_chk 100) && (tb_I_100_0.all (tb_chk 100) && true))) := rfl
  rw [h, tb_c_100_2, tb_c_100_1, tb_c_100_0]
  rfl
theorem tb_j_101 : tb_ok1 101 = true := by
  have h : tb_ok1 101 = (tb_I_101_1.all (tb_chk 101) && (tb_I_101_0.all (tb_chk 101) && true)) := rfl
  rw [h, tb_c_101_1, tb_c_101_0]
  rfl
theorem tb_j_102 : tb_ok1 102 = true := by
  have h : tb_ok1 102 = (tb_I_102_0.all (tb_chk 102) && true) := rfl
  rw [h, tb_c_102_0]
  rfl
theorem tb_j_103 : tb_ok1 103 = true := by
  have h : tb_ok1 103 = (tb_I_103_0.all (tb_chk 103) && true) := rfl
  rw [h, tb_c_103_0]
  rfl
theorem tb_j_104 : tb_ok1 104 = true := by
  have h : tb_ok1 104 = (tb_I_104_1.all (tb_chk 104) && (tb_I_104_0.all (tb_chk 104) && true)) := rfl
  rw [h, tb_c_104_1, tb_c_104_0]
  rfl
theorem tb_j_105 : tb_ok1 105 = true := by
  have h : tb_ok1 105 = (tb_I_105_1.all (tb_chk 105) && (tb_I_105_0.all (tb_chk 105) && true)) := rfl
  rw [h, tb_c_105_1, tb_c_105_0]
  rfl
theorem tb_j_106 : tb_ok1 106 = true := by
  have h : tb_ok1 106 = (tb_I_106_1.all (tb_chk 106) && (tb_I_106_0.all (tb_chk 106) && true)) := rfl
  rw [h, tb_c_106_1, tb_c_106_0]
  rfl
theorem tb_j_107 : tb_ok1 107 = true := by
  have h : tb_ok1 107 = (tb_I_107_1.all (tb_chk 107) && (tb_I_107_0.all (tb_chk 107) && true)) := rfl
  rw [h, tb_c_107_1, tb_c_107_0]
  rfl
theorem tb_j_108 : tb_ok1 108 = true := by
  have h : tb_ok1 108 = (tb_I_108_0.all (tb_chk 108) && true) := rfl
  rw [h, tb_c_108_0]
  rfl
theorem tb_j_109 : tb_ok1 109 = true := by
  have h : tb_ok1 109 = (tb_I_109_0.all (tb_chk 109) && true) := rfl
  rw [h, tb_c_109_0]
  rfl
theorem tb_j_110 : tb_ok1 110 = true := by
  have h : tb_ok1 110 = (tb_I_110_0.all (tb_chk 110) && true) := rfl
  rw [h, tb_c_110_0]
  rfl
theorem tb_j_111 : tb_ok1 111 = true := by
  have h : tb_ok1 111 = (tb_I_111_1.all (tb_chk 111) && (tb_I_111_0.all (tb_chk 111) && true)) := rfl
  rw [h, tb_c_111_1, tb_c_111_0]
  rfl
theorem tb_j_112 : tb_ok1 112 = true := by
  have h : tb_ok1 112 = (tb_I_112_0.all (tb_chk 112) && true) := rfl
  rw [h, tb_c_112_0]
  rfl
theorem tb_j_113 : tb_ok1 113 = true := by
  have h : tb_ok1 113 = (tb_I_113_0.all (tb_chk 113) && true) := rfl
  rw [h, tb_c_113_0]
  rfl
theorem tb_j_114 : tb_ok1 114 = true := by
  have h : tb_ok1 114 = (tb_I_114_1.all (tb_chk 114) && (tb_I_114_0.all (tb_chk 114) && true)) := rfl
  rw [h, tb_c_114_1, tb_c_114_0]
  rfl
theorem tb_j_115 : tb_ok1 115 = true := by
  have h : tb_ok1 115 = (tb_I_115_1.all (tb_chk 115) && (tb_I_115_0.all (tb_chk 115) && true)) := rfl
  rw [h, tb_c_115_1, tb_c_115_0]
  rfl
theorem tb_j_116 : tb_ok1 116 = true := by
  have h : tb_ok1 116 = (tb_I_116_0.all (tb_chk 116) && true) := rfl
  rw [h, tb_c_116_0]
  rfl
theorem tb_j_117 : tb_ok1 117 = true := by
  have h : tb_ok1 117 = (tb_I_117_0.all (tb_chk 117) && true) := rfl
  rw [h, tb_c_117_0]
  rfl
theorem tb_j_118 : tb_ok1 118 = true := by
  have h : tb_ok1 118 = (tb_I_118_0.all (tb_chk 118) && true) := rfl
  rw [h, tb_c_118_0]
  rfl
theorem tb_j_119 : tb_ok1 119 = true := by
  have h : tb_ok1 119 = (tb_I_119_0.all (tb_chk 119) && true) := rfl
  rw [h, tb_c_119_0]
  rfl
theorem tb_j_120 : tb_ok1 120 = true := by
  have h : tb_ok1 120 = (tb_I_120_0.all (tb_chk 120) && true) := rfl
  rw [h, tb_c_120_0]
  rfl
theorem tb_j_121 : tb_ok1 121 = true := by
  have h : tb_ok1 121 = (tb_I_121_1.all (tb_chk 121) && (tb_I_121_0.all (tb_chk 121) && true)) := rfl
  rw [h, tb_c_121_1, tb_c_121_0]
  rfl
theorem tb_j_122 : tb_ok1 122 = true := by
  have h : tb_ok1 122 = (tb_I_122_0.all (tb_chk 122) && true) := rfl
  rw [h, tb_c_122_0]
  rfl
theorem tb_j_123 : tb_ok1 123 = true := by
  have h : tb_ok1 123 = (tb_I_123_0.all (tb_chk 123) && true) := rfl
  rw [h, tb_c_123_0]
  rfl
theorem tb_j_124 : tb_ok1 124 = true := by
  have h : tb_ok1 124 = (tb_I_124_0.all (tb_chk 124) && true) := rfl
  rw [h, tb_c_124_0]
  rfl
theorem tb_j_125 : tb_ok1 125 = true := by
  have h : tb_ok1 125 = (tb_I_125_0.all (tb_chk 125) && true) := rfl
  rw [h, tb_c_125_0]
  rfl
theorem tb_j_126 : tb_ok1 126 = true := by
  have h : tb_ok1 126 = (tb_I_126_1.all (tb_chk 126) && (tb_I_126_0.all (tb_chk 126) && true)) := rfl
  rw [h, tb_c_126_1, tb_c_126_0]
  rfl
theorem tb_j_127 : tb_ok1 127 = true := by
  have h : tb_ok1 127 = (tb_I_127_0.all (tb_chk 127) && true) := rfl
  rw [h, tb_c_127_0]
  rfl
theorem tb_j_128 : tb_ok1 128 = true := by
  have h : tb_ok1 128 = (tb_I_128_0.all (tb_chk 128) && true) := rfl
  rw [h, tb_c_128_0]
  rfl
theorem tb_j_129 : tb_ok1 129 = true := by
  have h : tb_ok1 129 = (tb_I_129_0.all (tb_chk 129) && true) := rfl
  rw [h, tb_c_129_0]
  rfl
theorem tb_j_130 : tb_ok1 130 = true := by
  have h : tb_ok1 130 = (tb_I_130_1.all (tb_chk 130) && (tb_I_130_0.all (tb_chk 130) && true)) := rfl
  rw [h, tb_c_130_1, tb_c_130_0]
  rfl
theorem tb_j_131 : tb_ok1 131 = true := by
  have h : tb_ok1 131 = (tb_I_131_0.all (tb_chk 131) && true) := rfl
  rw [h, tb_c_131_0]
  rfl
theorem tb_j_132 : tb_ok1 132 = true := by
  have h : tb_ok1 132 = (tb_I_132_0.all (tb_chk 132) && true) := rfl
  rw [h, tb_c_132_0]
  rfl
theorem tb_j_133 : tb_ok1 133 = true := by
  have h : tb_ok1 133 = (tb_I_133_1.all (tb_chk 133) && (tb_I_133_0.all (tb_chk 133) && true)) := rfl
  rw [h, tb_c_133_1, tb_c_133_0]
  rfl
theorem tb_j_134 : tb_ok1 134 = true := by
  have h : tb_ok1 134 = (tb_I_134_1.all (tb_chk 134) && (tb_I_134_0.all (tb_chk 134) && true)) := rfl
  rw [h, tb_c_134_1, tb_c_134_0]
  rfl
theorem tb_j_135 : tb_ok1 135 = true := by
  have h : tb_ok1 135 = (tb_I_135_1.all (tb_chk 135) && (tb_I_135_0.all (tb_chk 135) && true)) := rfl
  rw [h, tb_c_135_1, tb_c_135_0]
  rfl
theorem tb_j_136 : tb_ok1 136 = true := by
  have h : tb_ok1 136 = (tb_I_136_0.all (tb_chk 136) && true) := rfl
  rw [h, tb_c_136_0]
  rfl
theorem tb_j_137 : tb_ok1 137 = true := by
  have h : tb_ok1 137 = (tb_I_137_0.all (tb_chk 137) && true) := rfl
  rw [h, tb_c_137_0]
  rfl
theorem tb_j_138 : tb_ok1 138 = true := by
  have h : tb_ok1 138 = (tb_I_138_0.all (tb_chk 138) && true) := rfl
  rw [h, tb_c_138_0]
  rfl
theorem tb_j_139 : tb_ok1 139 = true := by
  have h : tb_ok1 139 = (tb_I_139_0.all (tb_chk 139) && true) := rfl
  rw [h, tb_c_139_0]
  rfl
theorem tb_j_140 : tb_ok1 140 = true := by
  have h : tb_ok1 140 = (tb_I_140_0.all (tb_chk 140) && true) := rfl
  rw [h, tb_c_140_0]
  rfl
theorem tb_j_141 : tb_ok1 141 = true := by
  have h : tb_ok1 141 = (tb_I_141_1.all (tb_chk 141) && (tb_I_141_0.all (tb_chk 141) && true)) := rfl
  rw [h, tb_c_141_1, tb_c_141_0]
  rfl
theorem tb_j_142 : tb_ok1 142 = true := by
  have h : tb_ok1 142 = (tb_I_142_0.all (tb_chk 142) && true) := rfl
  rw [h, tb_c_142_0]
  rfl
theorem tb_j_143 : tb_ok1 143 = true := by
  have h : tb_ok1 143 = (tb_I_143_0.all (tb_chk 143) && true) := rfl
  rw [h, tb_c_143_0]
  rfl
theorem tb_j_144 : tb_ok1 144 = true := by
  have h : tb_ok1 144 = (tb_I_144_0.all (tb_chk 144) && true) := rfl
  rw [h, tb_c_144_0]
  rfl
theorem tb_j_145 : tb_ok1 145 = true := by
  have h : tb_ok1 145 = (tb_I_145_4.all (tb_chk 145) && (tb_I_145_3.all (tb_chk 145) && (tb_I_145_2.all (tb_chk 145) && (tb_I_145_1.all (tb_chk 145) && (tb_I_145_0.all (tb_chk 145) && true))))) := rfl
  rw [h, tb_c_145_4, tb_c_145_3, tb_c_145_2, tb_c_145_1, tb_c_145_0]
  rfl
theorem tb_j_146 : tb_ok1 146 = true := by
  have h : tb_ok1 146 = (tb_I_146_0.all (tb_chk 146) && true) := rfl
  rw [h, tb_c_146_0]
  rfl
theorem tb_j_147 : tb_ok1 147 = true := by
  have h : tb_ok1 147 = (tb_I_147_1.all (tb_chk 147) && (tb_I_147_0.all (tb_chk 147) && true)) := rfl
  rw [h, tb_c_147_1, tb_c_147_0]
  rfl
theorem tb_j_148 : tb_ok1 148 = true := by
  have h : tb_ok1 148 = (tb_I_148_0.all (tb_chk 148) && true) := rfl
  rw [h, tb_c_148_0]
  rfl
theorem tb_j_149 : tb_ok1 149 = true := by
  have h : tb_ok1 149 = (tb_I_149_0.all (tb_chk 149) && true) := rfl
  rw [h, tb_c_149_0]
  rfl
theorem tb_j_150 : tb_ok1 150 = true := by
  have h : tb_ok1 150 = (tb_I_150_3.all (tb_chk 150) && (tb_I_150_2.all (tb_chk 150) && (tb_I_150_1.all (tb_chk 150) && (tb_I_150_0.all (tb_chk 150) && true)))) := rfl
  rw [h, tb_c_150_3, tb_c_150_2, tb_c_150_1, tb_c_150_0]
  rfl
theorem tb_j_151 : tb_ok1 151 = true := by
  have h : tb_ok1 151 = (tb_I_151_3.all (tb_chk 151) && (tb_I_151_2.all (tb_chk 151) && (tb_I_151_1.all (tb_chk 151) && (tb_I_151_0.all (tb_chk 151) && true)))) := rfl
  rw [h, tb_c_151_3, tb_c_151_2, tb_c_151_1, tb_c_151_0]
  rfl
theorem tb_j_152 : tb_ok1 152 = true := by
  have h : tb_ok1 152 = (tb_I_152_0.all (tb_chk 152) && true) := rfl
  rw [h, tb_c_152_0]
  rfl
theorem tb_j_153 : tb_ok1 153 = true := by
  have h : tb_ok1 153 = (tb_I_153_0.all (tb_chk 153) && true) := rfl
  rw [h, tb_c_153_0]
  rfl
theorem tb_j_154 : tb_ok1 154 = true := by
  have h : tb_ok1 154 = (tb_I_154_3.all (tb_chk 154) && (tb_I_154_2.all (tb_chk 154) && (tb_I_154_1.all (tb_chk 154) && (tb_I_154_0.all (tb_chk 154) && true)))) := rfl
  rw [h, tb_c_154_3, tb_c_154_2, tb_c_154_1, tb_c_154_0]
  rfl
theorem tb_j_155 : tb_ok1 155 = true := by
  have h : tb_ok1 155 = (tb_I_155_1.all (tb_chk 155) && (tb_I_155_0.all (tb_chk 155) && true)) := rfl
  rw [h, tb_c_155_1, tb_c_155_0]
  rfl
theorem tb_j_156 : tb_ok1 156 = true := by
  have h : tb_ok1 156 = (tb_I_156_0.all (tb_chk 156) && true) := rfl
  rw [h, tb_c_156_0]
  rfl
theorem tb_j_157 : tb_ok1 157 = true := by
  have h : tb_ok1 157 = (tb_I_157_0.all (tb_chk 157) && true) := rfl
  rw [h, tb_c_157_0]
  rfl
theorem tb_j_158 : tb_ok1 158 = true := by
  have h : tb_ok1 158 = (tb_I_158_4.all (tb_chk 158) && (tb_I_158_3.all (tb_chk 158) && (tb_I_158_2.all (tb_chk 158) && (tb_I_158_1.all (tb_chk 158) && (tb_I_158_0.all (tb_chk 158) && true))))) := rfl
  rw [h, tb_c_158_4, tb_c_158_3, tb_c_158_2, tb_c_158_1, tb_c_158_0]
  rfl
theorem tb_j_159 : tb_ok1 159 = true := by
  have h : tb_ok1 159 = (tb_I_159_0.all (tb_chk 159) && true) := rfl
  rw [h, tb_c_159_0]
  rfl
theorem tb_j_160 : tb_ok1 160 = true := by
  have h : tb_ok1 160 = (tb_I_160_0.all (tb_chk 160) && true) := rfl
  rw [h, tb_c_160_0]
  rfl
theorem tb_j_161 : tb_ok1 161 = true := by
  have h : tb_ok1 161 = (tb_I_161_2.all (tb_chk 161) && (tb_I_161_1.all (tb_chk 161) && (tb_I_161_0.all (tb_chk 161) && true))) := rfl
  rw [h, tb_c_161_2, tb_c_161_1, tb_c_161_0]
  rfl
theorem tb_j_162 : tb_ok1 162 = true := by
  have h : tb_ok1 162 = (tb_I_162_1.all (tb_chk 162) && (tb_I_162_0.all (tb_chk 162) && true)) := rfl
  rw [h, tb_c_162_1, tb_c_162_0]
  rfl
theorem tb_j_163 : tb_ok1 163 = true := by
  have h : tb_ok1 163 = (tb_I_163_0.all (tb_chk 163) && true) := rfl
  rw [h, tb_c_163_0]
  rfl
theorem tb_j_164 : tb_ok1 164 = true := by
  have h : tb_ok1 164 = (tb_I_164_3.all (tb_chk 164) && (tb_I_164_2.all (tb_chk 164) && (tb_I_164_1.all (tb_chk 164) && (tb_I_164_0.all (tb_chk 164) && true)))) := rfl
  rw [h, tb_c_164_3, tb_c_164_2, tb_c_164_1, tb_c_164_0]
  rfl
theorem tb_j_165 : tb_ok1 165 = true := by
  have h : tb_ok1 165 = (tb_I_165_0.all (tb_chk 165) && true) := rfl
  rw [h, tb_c_165_0]
  rfl
theorem tb_j_166 : tb_ok1 166 = true := by
  have h : tb_ok1 166 = (tb_I_166_0.all (tb_chk 166) && true) := rfl
  rw [h, tb_c_166_0]
  rfl
theorem tb_j_167 : tb_ok1 167 = true := by
  have h : tb_ok1 167 = (tb_I_167_3.all (tb_chk 167) && (tb_I_167_2.all (tb_chk 167) && (tb_I_167_1.all (tb_chk 167) && (tb_I_167_0.all (tb_chk 167) && true)))) := rfl
  rw [h, tb_c_167_3, tb_c_167_2, tb_c_167_1, tb_c_167_0]
  rfl
theorem tb_j_168 : tb_ok1 168 = true := by
  have h : tb_ok1 168 = (tb_I_168_3.all (tb_chk 168) && (tb_I_168_2.all (tb_chk 168) && (tb_I_168_1.all (tb_chk 168) && (tb_I_168_0.all (tb_chk 168) && true)))) := rfl
  rw [h, tb_c_168_3, tb_c_168_2, tb_c_168_1, tb_c_168_0]
  rfl
theorem tb_j_169 : tb_ok1 169 = true := by
  have h : tb_ok1 169 = (tb_I_169_0.all (tb_chk 169) && true) := rfl
  rw [h, tb_c_169_0]
  rfl
theorem tb_j_170 : tb_ok1 170 = true := by
  have h : tb_ok1 170 = (tb_I_170_0.all (tb_chk 170) && true) := rfl
  rw [h, tb_c_170_0]
  rfl
theorem tb_j_171 : tb_ok1 171 = true := by
  have h : tb_ok1 171 = (tb_I_171_3.all (tb_chk 171) && (tb_I_171_2.all (tb_chk 171) && (tb_I_171_1.all (tb_chk 171) && (tb_I_171_0.all (tb_chk 171) && true)))) := rfl
  rw [h, tb_c_171_3, tb_c_171_2, tb_c_171_1, tb_c_171_0]
  rfl
theorem tb_j_172 : tb_ok1 172 = true := by
  have h : tb_ok1 172 = (tb_I_172_2.all (tb_chk 172) && (tb_I_172_1.all (tb_chk 172) && (tb_I_172_0.all (tb_chk 172) && true))) := rfl
  rw [h, tb_c_172_2, tb_c_172_1, tb_c_172_0]
  rfl
theorem tb_j_173 : tb_ok1 173 = true := by
  have h : tb_ok1 173 = (tb_I_173_5.all (tb_chk 173) && (tb_I_173_4.all (tb_chk 173) && (tb_I_173_3.all (tb_chk 173) && (tb_I_173_2.all (tb_chk 173) && (tb_I_173_1.all (tb_chk 173) && (tb_I_173_0.all (tb_chk 173) && true)))))) := rfl
  rw [h, tb_c_173_5, tb_c_173_4, tb_c_173_3, tb_c_173_2, tb_c_173_1, tb_c_173_0]
  rfl
theorem tb_j_174 : tb_ok1 174 = true := by
  have h : tb_ok1 174 = (tb_I_174_0.all (tb_chk 174) && true) := rfl
  rw [h, tb_c_174_0]
  rfl
theorem tb_j_175 : tb_ok1 175 = true := by
  have h : tb_ok1 175 = (tb_I_175_1.all (tb_chk 175) && (tb_I_175_0.all (tb_chk 175) && true)) := rfl
  rw [h, tb_c_175_1, tb_c_175_0]
  rfl
theorem tb_j_176 : tb_ok1 176 = true := by
  have h : tb_ok1 176 = (tb_I_176_0.all (tb_chk 176) && true) := rfl
  rw [h, tb_c_176_0]
  rfl
theorem tb_j_177 : tb_ok1 177 = true := by
  have h : tb_ok1 177 = (tb_I_177_0.all (tb_chk 177) && true) := rfl
  rw [h, tb_c_177_0]
  rfl
theorem tb_j_178 : tb_ok1 178 = true := by
  have h : tb_ok1 178 = (tb_I_178_0.all (tb_chk 178) && true) := rfl
  rw [h, tb_c_178_0]
  rfl
theorem tb_j_179 : tb_ok1 179 = true := by
  have h : tb_ok1 179 = (tb_I_179_4.all (tb_chk 179) && (tb_I_179_3.all (tb_chk 179) && (tb_I_179_2.all (tb_chk 179) && (tb_I_179_1.all (tb_chk 179) && (tb_I_179_0.all (tb_chk 179) && true))))) := rfl
  rw [h, tb_c_179_4, tb_c_179_3, tb_c_179_2, tb_c_179_1, tb_c_179_0]
  rfl
theorem tb_j_180 : tb_ok1 180 = true := by
  have h : tb_ok1 180 = (tb_I_180_3.all (tb_chk 180) && (tb_I_180_2.all (tb_chk 180) && (tb_I_180_1.all (tb_chk 180) && (tb_I_180_0.all (tb_chk 180) && true)))) := rfl
  rw [h, tb_c_180_3, tb_c_180_2, tb_c_180_1, tb_c_180_0]
  rfl
theorem tb_j_181 : tb_ok1 181 = true := by
  have h : tb_ok1 181 = (tb_I_181_3.all (tb_chk 181) && (tb_I_181_2.all (tb_chk 181) && (tb_I_181_1.all (tb_chk 181) && (tb_I_181_0.all (tb_chk 181) && true)))) := rfl
  rw [h, tb_c_181_3, tb_c_181_2, tb_c_181_1, tb_c_181_0]
  rfl
theorem tb_j_182 : tb_ok1 182 = true := by
  have h : tb_ok1 182 = (tb_I_182_0.all (tb_chk 182) && true) := rfl
  rw [h, tb_c_182_0]
  rfl
theorem tb_j_183 : tb_ok1 183 = true := by
  have h : tb_ok1 183 = (tb_I_183_7.all (tb_chk 183) && (tb_I_183_6.all (tb_chk 183) && (tb_I_183_5.all (tb_chk 183) && (tb_I_183_4.all (tb_chk 183) && (tb_I_183_3.all (tb_chk 183) && (tb_I_183_2.all (tb_chk 183) && (tb_I_183_1.all (tb_chk 183) && (tb_I_183_0.all (tb_chk 183) && true)))))))) := rfl
  rw [h, tb_c_183_7, tb_c_183_6, tb_c_183_5, tb_c_183_4, tb_c_183_3, tb_c_183_2, tb_c_183_1, tb_c_183_0]
  rfl
theorem tb_j_184 : tb_ok1 184 = true := by
  have h : tb_ok1 184 = (tb_I_184_3.all (tb_chk 184) && (tb_I_184_2.all (tb_chk 184) && (tb_I_184_1.all (tb_chk 184) && (tb_I_184_0.all (tb_chk 184) && true)))) := rfl
  rw [h, tb_c_184_3, tb_c_184_2, tb_c_184_1, tb_c_184_0]
  rfl
theorem tb_j_185 : tb_ok1 185 = true := by
  have h : tb_ok1 185 = (tb_I_185_0.all (tb_chk 185) && true) := rfl
  rw [h, tb_c_185_0]
  rfl
theorem tb_j_186 : tb_ok1 186 = true := by
  have h : tb_ok1 186 = (tb_I_186_0.all (tb_chk 186) && true) := rfl
  rw [h, tb_c_186_0]
  rfl
theorem tb_j_187 : tb_ok1 187 = true := by
  have h : tb_ok1 187 = (tb_I_187_0.all (tb_chk 187) && true) := rfl
  rw [h, tb_c_187_0]
  rfl
theorem tb_j_188 : tb_ok1 188 = true := by
  have h : tb_ok1 188 = (tb_I_188_0.all (tb_chk 188) && true) := rfl
  rw [h, tb_c_188_0]
  rfl
theorem tb_j_189 : tb_ok1 189 = true := by
  have h : tb_ok1 189 = (tb_I_189_4.all (tb_chk 189) && (tb_I_189_3.all (tb_chk 189) && (tb_I_189_2.all (tb_chk 189) && (tb_I_189_1.all (tb_chk 189) && (tb_I_189_0.all (tb_chk 189) && true))))) := rfl
  rw [h, tb_c_189_4, tb_c_189_3, tb_c_189_2, tb_c_189_1, tb_c_189_0]
  rfl
theorem tb_j_190 : tb_ok1 190 = true := by
  have h : tb_ok1 190 = (tb_I_190_5.all (tb_chk 190) && (tb_I_190_4.all (tb_chk 190) && (tb_I_190_3.all (tb_chk 190) && (tb_I_190_2.all (tb_chk 190) && (tb_I_190_1.all (tb_chk 190) && (tb_I_190_0.all (tb_chk 190) && true)))))) := rfl
  rw [h, tb_c_190_5, tb_c_190_4, tb_c_190_3, tb_c_190_2, tb_c_190_1, tb_c_190_0]
  rfl
theorem tb_j_191 : tb_ok1 191 = true := by
  have h : tb_ok1 191 = (tb_I_191_3.all (tb_chk 191) && (tb_I_191_2.all (tb_chk 191) && (tb_I_191_1.all (tb_chk 191) && (tb_I_191_0.all (tb_chk 191) && true)))) := rfl
  rw [h, tb_c_191_3, tb_c_191_2, tb_c_191_1, tb_c_191_0]
  rfl
theorem tb_j_192 : tb_ok1 192 = true := by
  have h : tb_ok1 192 = (tb_I_192_2.all (tb_chk 192) && (tb_I_192_1.all (tb_chk 192) && (tb_I_192_0.all (tb_chk 192) && true))) := rfl
  rw [h, tb_c_192_2, tb_c_192_1, tb_c_192_0]
  rfl
theorem tb_j_193 : tb_ok1 193 = true := by
  have h : tb_ok1 193 = (tb_I_193_0.all (tb_chk 193) && true) := rfl
  rw [h, tb_c_193_0]
  rfl
theorem tb_j_194 : tb_ok1 194 = true := by
  have h : tb_ok1 194 = (tb_I_194_1.all (tb_chk 194) && (tb_I_194_0.all (tb_chk 194) && true)) := rfl
  rw [h, tb_c_194_1, tb_c_194_0]
  rfl
theorem tb_j_195 : tb_ok1 195 = true := by
  have h : tb_ok1 195 = (tb_I_195_4.all (tb_chk 195) && (tb_I_195_3.all (tb_chk 195) && (tb_I_195_2.all (tb_chk 195) && (tb_I_195_1.all (tb_chk 195) && (tb_I_195_0.all (tb_chk 195) && true))))) := rfl
  rw [h, tb_c_195_4, tb_c_195_3, tb_c_195_2, tb_c_195_1, tb_c_195_0]
  rfl
theorem tb_j_196 : tb_ok1 196 = true := by
  have h : tb_ok1 196 = (tb_I_196_0.all (tb_chk 196) && true) := rfl
  rw [h, tb_c_196_0]
  rfl
theorem tb_j_197 : tb_ok1 197 = true := by
  have h : tb_ok1 197 = (tb_I_197_0.all (tb_chk 197) && true) := rfl
  rw [h, tb_c_197_0]
  rfl
theorem tb_j_198 : tb_ok1 198 = true := by
  have h : tb_ok1 198 = (tb_I_198_0.all (tb_chk 198) && true) := rfl
  rw [h, tb_c_198_0]
  rfl
theorem tb_j_199 : tb_ok1 199 = true := by
  have h : tb_ok1 199 = (tb_I_199_0.all (tb_chk 199) && true) := rfl
  rw [h, tb_c_199_0]
  rfl
theorem tb_j_200 : tb_ok1 200 = true := by
  have h : tb_ok1 200 = (tb_I_200_6.all (tb_chk 200) && (tb_I_200_5.all (tb_chk 200) && (tb_I_200_4.all (tb_chk 200) && (tb_I_200_3.all (tb_chk 200) && (tb_I_200_2.all (tb_chk 200) && (tb_I_200_1.all (tb_chk 200) && (tb_I_200_0.all (tb_chk 200) && true))))))) := rfl
  rw [h, tb_c_200_6, tb_c_200_5, tb_c_200_4, tb_c_200_3, tb_c_200_2, tb_c_200_1, tb_c_200_0]
  rfl
theorem tb_j_201 : tb_ok1 201 = true := by
  have h : tb_ok1 201 = (tb_I_201_0.all (tb_chk 201) && true) := rfl
  rw [h, tb_c_201_0]
  rfl
theorem tb_j_202 : tb_ok1 202 = true := by
  have h : tb_ok1 202 = (tb_I_202_0.all (tb_chk 202) && true) := rfl
  rw [h, tb_c_202_0]
  rfl
theorem tb_j_203 : tb_ok1 203 = true := by
  have h : tb_ok1 203 = (tb_I_203_0.all (tb_chk 203) && true) := rfl
  rw [h, tb_c_203_0]
  rfl
theorem tb_j_204 : tb_ok1 204 = true := by
  have h : tb_ok1 204 = (tb_I_204_0.all (tb_chk 204) && true) := rfl
  rw [h, tb_c_204_0]
  rfl
theorem tb_j_205 : tb_ok1 205 = true := by
  have h : tb_ok1 205 = (tb_I_205_0.all (tb_chk 205) && true) := rfl
  rw [h, tb_c_205_0]
  rfl
theorem tb_j_206 : tb_ok1 206 = true := by
  have h : tb_ok1 206 = (tb_I_206_3.all (tb_chk 206) && (tb_I_206_2.all (tb_chk 206) && (tb_I_206_1.all (tb_chk 206) && (tb_I_206_0.all (tb_chk 206) && true)))) := rfl
  rw [h, tb_c_206_3, tb_c_206_2, tb_c_206_1, tb_c_206_0]
  rfl
theorem tb_j_207 : tb_ok1 207 = true := by
  have h : tb_ok1 207 = (tb_I_207_0.all (tb_chk 207) && true) := rfl
  rw [h, tb_c_207_0]
  rfl
theorem tb_j_208 : tb_ok1 208 = true := by
  have h : tb_ok1 208 = (tb_I_208_0.all (tb_chk 208) && true) := rfl
  rw [h, tb_c_208_0]
  rfl
theorem tb_j_209 : tb_ok1 209 = true := by
  have h : tb_ok1 209 = (tb_I_209_0.all (tb_chk 209) && true) := rfl
  rw [h, tb_c_209_0]
  rfl
theorem tb_j_210 : tb_ok1 210 = true := by
  have h : tb_ok1 210 = (tb_I_210_0.all (tb_chk 210) && true) := rfl
  rw [h, tb_c_210_0]
  rfl
theorem tb_j_211 : tb_ok1 211 = true := by
  have h : tb_ok1 211 = (tb_I_211_0.all (tb_chk 211) && true) := rfl
  rw [h, tb_c_211_0]
  rfl
theorem tb_j_212 : tb_ok1 212 = true := by
  have h : tb_ok1 212 = (tb_I_212_0.all (tb_chk 212) && true) := rfl
  rw [h, tb_c_212_0]
  rfl
theorem tb_j_213 : tb_ok1 213 = true := by
  have h : tb_ok1 213 = (tb_I_213_0.all (tb_chk 213) && true) := rfl
  rw [h, tb_c_213_0]
  rfl
theorem tb_j_214 : tb_ok1 214 = true := by
  have h : tb_ok1 214 = (tb_I_214_0.all (tb_chk 214) && true) := rfl
  rw [h, tb_c_214_0]
  rfl
theorem tb_j_215 : tb_ok1 215 = true := by
  have h : tb_ok1 215 = (tb_I_215_0.all (tb_chk 215) && true) := rfl
  rw [h, tb_c_215_0]
  rfl
theorem tb_j_216 : tb_ok1 216 = true := by
  have h : tb_ok1 216 = (tb_I_216_0.all (tb_chk 216) && true) := rfl
  rw [h, tb_c_216_0]
  rfl
theorem tb_j_217 : tb_ok1 217 = true := by
  have h : tb_ok1 217 = (tb_I_217_0.all (tb_chk 217) && true) := rfl
  rw [h, tb_c_217_0]
  rfl
theorem tb_j_218 : tb_ok1 218 = true := by
  have h : tb_ok1 218 = (tb_I_218_0.all (tb_chk 218) && true) := rfl
  rw [h, tb_c_218_0]
  rfl
theorem tb_j_219 : tb_ok1 219 = true := by
  have h : tb_ok1 219 = (tb_I_219_0.all (tb_chk 219) && true) := rfl
  rw [h, tb_c_219_0]
  rfl
theorem tb_j_220 : tb_ok1 220 = true := by
  have h : tb_ok1 220 = (tb_I_220_0.all (tb_chk 220) && true) := rfl
  rw [h, tb_c_220_0]
  rfl
theorem tb_g_0 : ∀ i, i < 16 → tb_ok1 (0 + i) = true ∨ 221 ≤ 0 + i := by
  intro i hi
  match i, hi with
  | 0, _ => exact Or.inl tb_j_0
  | 1, _ => exact Or.inl tb_j_1
  | 2, _ => exact Or.inl tb_j_2
  | 3, _ => exact Or.inl tb_j_3
  | 4, _ => exact Or.inl tb_j_4
  | 5, _ => exact Or.inl tb_j_5
  | 6, _ => exact Or.inl tb_j_6
  | 7, _ => exact Or.inl tb_j_7
  | 8, _ => exact Or.inl tb_j_8
  | 9, _ => exact Or.inl tb_j_9
  | 10, _ => exact Or.inl tb_j_10
  | 11, _ => exact Or.inl tb_j_11
  | 12, _ => exact Or.inl tb_j_12
  | 13, _ => exact Or.inl tb_j_13
  | 14, _ => exact Or.inl tb_j_14
  | 15, _ => exact Or.inl tb_j_15
  | i + 16, h => omega
theorem tb_g_1 : ∀ i, i < 16 → tb_ok1 (16 + i) = true ∨ 221 ≤ 16 + i := by
  intro i hi
  match i, hi with
  | 0, _ => exact Or.inl tb_j_16
  | 1, _ => exact Or.inl tb_j_17
  | 2, _ => exact Or.inl tb_j_18
  | 3, _ => exact Or.inl tb_j_19
  | 4, _ => exact Or.inl tb_j_20
  | 5, _ => exact Or.inl tb_j_21
  | 6, _ => exact Or.inl tb_j_22
  | 7, _ => exact Or.inl tb_j_23
  | 8, _ => exact Or.inl tb_j_24
  | 9, _ => exact Or.inl tb_j_25
  | 10, _ => exact Or.inl tb_j_26
  | 11, _ => exact Or.inl tb_j_27
  | 12, _ => exact Or.inl tb_j_28
  | 13, _ => exact Or.inl tb_j_29
  | 14, _ => exact Or.inl tb_j_30
  | 15, _ => exact Or.inl tb_j_31
  | i + 16, h => omega
theorem tb_g_2 : ∀ i, i < 16 → tb_ok1 (32 + i) = true ∨ 221 ≤ 32 + i := by
  intro i hi
  match i, hi with
  | 0, _ => exact Or.inl tb_j_32
  | 1, _ => exact Or.inl tb_j_33
  | 2, _ => exact Or.inl tb_j_34
  | 3, _ => exact Or.inl tb_j_35
  | 4, _ => exact Or.inl tb_j_36
  | 5, _ => exact Or.inl tb_j_37
  | 6, _ => exact Or.inl tb_j_38
  | 7, _ => exact Or.inl tb_j_39
  | 8, _ => exact Or.inl tb_j_40
  | 9, _ => exact Or.inl tb_j_41
  | 10, _ => exact Or.inl tb_j_42
  | 11, _ => exact Or.inl tb_j_43
  | 12, _ => exact Or.inl tb_j_44
  | 13, _ => exact Or.inl tb_j_45
  | 14, _ => exact Or.inl tb_j_46
  | 15, _ => exact Or.inl tb_j_47
  | i + 16, h => omega
theorem tb_g_3 : ∀ i, i < 16 → tb_ok1 (48 + i) = true ∨ 221 ≤ 48 + i := by
  intro i hi
  match i, hi with
  | 0, _ => exact Or.inl tb_j_48
  | 1, _ => exact Or.inl tb_j_49
  | 2, _ => exact Or.inl tb_j_50
  | 3, _ => exact Or.inl tb_j_51
  | 4, _ => exact Or.inl tb_j_52
  | 5, _ => exact Or.inl tb_j_53
  | 6, _ => exact Or.inl tb_j_54
  | 7, _ => exact Or.inl tb_j_55
  | 8, _ => exact Or.inl tb_j_56
  | 9, _ => exact Or.inl tb_j_57
  | 10, _ => exact Or.inl tb_j_58
  | 11, _ => exact Or.inl tb_j_59
  | 12, _ => exact Or.inl tb_j_60
  | 13, _ => exact Or.inl tb_j_61
  | 14, _ => exact Or.inl tb_j_62
  | 15, _ => exact Or.inl tb_j_63
  | i + 16, h => omega
theorem tb_g_4 : ∀ i, i < 16 → tb_ok1 (64 + i) = true ∨ 221 ≤ 64 + i := by
  intro i hi
  match i, hi with
  | 0, _ => exact Or.inl tb_j_64
  | 1, _ => exact Or.inl tb_j_65
  | 2, _ => exact Or.inl tb_j_66
  | 3, _ => exact Or.inl tb_j_67
  | 4, _ => exact Or.inl tb_j_68
  | 5, _ => exact Or.inl tb_j_69
  | 6, _ => exact Or.inl tb_j_70
  | 7, _ => exact Or.inl tb_j_71
  | 8, _ => exact Or.inl tb_j_72
  | 9, _ => exact Or.inl tb_j_73
  | 10, _ => exact Or.inl tb_j_74
  | 11, _ => exact Or.inl tb_j_75
  | 12, _ => exact Or.inl tb_j_76
  | 13, _ => exact Or.inl tb_j_77
  | 14, _ => exact Or.inl tb_j_78
  | 15, _ => exact Or.inl tb_j_79
  | i + 16, h => omega
theorem tb_g_5 : ∀ i, i < 16 → tb_ok1 (80 + i) = true ∨ 221 ≤ 80 + i := by
  intro i hi
  match i, hi with
  | 0, _ => exact Or.inl tb_j_80
  | 1, _ => exact Or.inl tb_j_81
  | 2, _ => exact Or.inl tb_j_82
  | 3, _ => exact Or.inl tb_j_83
  | 4, _ => exact Or.inl tb_j_84
  | 5, _ => exact Or.inl tb_j_85
  | 6, _ => exact Or.inl tb_j_86
  | 7, _ => exact Or.inl tb_j_87
  | 8, _ => exact Or.inl tb_j_88
  | 9, _ => exact Or.inl tb_j_89
  | 10, _ => exact Or.inl tb_j_90
  | 11, _ => exact Or.inl tb_j_91
  | 12, _ => exact Or.inl tb_j_92
  | 13, _ => exact Or.inl tb_j_93
  | 14, _ => exact Or.inl tb_j_94
  | 15, _ => exact Or.inl tb_j_95
  | i + 16, h => omega
theorem tb_g_6 : ∀ i, i < 16 → tb_ok1 (96 + i) = true ∨ 221 ≤ 96 + i := by
  intro i hi
  match i, hi with
  | 0, _ => exact Or.inl tb_j_96
  | 1, _ => exact Or.inl tb_j_97
  | 2, _ => exact Or.inl tb_j_98
  | 3, _ => exact Or.inl tb_j_99
  | 4, _ => exact Or.inl tb_j_100
  | 5, _ => exact Or.inl tb_j_101
  | 6, _ => exact Or.inl tb_j_102
  | 7, _ => exact Or.inl tb_j_103
  | 8, _ => exact Or.inl tb_j_104
  | 9, _ => exact Or.inl tb_j_105
  | 10, _ => exact Or.inl tb_j_106
  | 11, _ => exact Or.inl tb_j_107
  | 12, _ => exact Or.inl tb_j_108
  | 13, _ => exact Or.inl tb_j_109
  | 14, _ => exact Or.inl tb_j_110
  | 15, _ => exact Or.inl tb_j_111
  | i + 16, h => omega
theorem tb_g_7 : ∀ i, i < 16 → tb_ok1 (112 + i) = true ∨ 221 ≤ 112 + i := by
  intro i hi
  match i, hi with
  | 0, _ => exact Or.inl tb_j_112
  | 1, _ => exact Or.inl tb_j_113
  | 2, _ => exact Or.inl tb_j_114
  | 3, _ => exact Or.inl tb_j_115
  | 4, _ => exact Or.inl tb_j_116
  | 5, _ => exact Or.inl tb_j_117
  | 6, _ => exact Or.inl tb_j_118
  | 7, _ => exact Or.inl tb_j_119
  | 8, _ => exact Or.inl tb_j_120
  | 9, _ => exact Or.inl tb_j_121
  | 10, _ => exact Or.inl tb_j_122
  | 11, _ => exact Or.inl tb_j_123
  | 12, _ => exact Or.inl tb_j_124
  | 13, _ => exact Or.inl tb_j_125
  | 14, _ => exact Or.inl tb_j_126
  | 15, _ => exact Or.inl tb_j_127
  | i + 16, h => omega
theorem tb_g_8 : ∀ i, i < 16 → tb_ok1 (128 + i) = true ∨ 221 ≤ 128 + i := by
  intro i hi
  match i, hi with
  | 0, _ => exact Or.inl tb_j_128
  | 1, _ => exact Or.inl tb_j_129
  | 2, _ => exact Or.inl tb_j_130
  | 3, _ => exact Or.inl tb_j_131
  | 4, _ => exact Or.inl tb_j_132
  | 5, _ => exact Or.inl tb_j_133
  | 6, _ => exact Or.inl tb_j_134
  | 7, _ => exact Or.inl tb_j_135
  | 8, _ => exact Or.inl tb_j_136
  | 9, _ => exact Or.inl tb_j_137
  | 10, _ => exact Or.inl tb_j_138
  | 11, _ => exact Or.inl tb_j_139
  | 12, _ => exact Or.inl tb_j_140
  | 13, _ => exact Or.inl tb_j_141
  | 14, _ => exact Or.inl tb_j_142
  | 15, _ => exact Or.inl tb_j_143
  | i + 16, h => omega
theorem tb_g_9 : ∀ i, i < 16 → tb_ok1 (144 + i) = true ∨ 221 ≤ 144 + i := by
  intro i hi
  match i, hi with
  | 0, _ => exact Or.inl tb_j_144
  | 1, _ => exact Or.inl tb_j_145
  | 2, _ => exact Or.inl tb_j_146
  | 3, _ => exact Or.inl tb_j_147
  | 4, _ => exact Or.inl tb_j_148
  | 5, _ => exact Or.inl tb_j_149
  | 6, _ => exact Or.inl tb_j_150
  | 7, _ => exact Or.inl tb_j_151
  | 8, _ => exact Or.inl tb_j_152
  | 9, _ => exact Or.inl tb_j_153
  | 10, _ => exact Or.inl tb_j_154
  | 11, _ => exact Or.inl tb_j_155
  | 12, _ => exact Or.inl tb_j_156
  | 13, _ => exact Or.inl tb_j_157
  | 14, _ => exact Or.inl tb_j_158
  | 15, _ => exact Or.inl tb_j_159
  | i + 16, h => omega
theorem tb_g_10 : ∀ i, i < 16 → tb_ok1 (160 + i) = true ∨ 221 ≤ 160 + i := by
  intro i hi
  match i, hi with
  | 0, _ => exact Or.inl tb_j_160
  | 1, _ => exact Or.inl tb_j_161
  | 2, _ => exact Or.inl tb_j_162
  | 3, _ => exact Or.inl tb_j_163
  | 4, _ => exact Or.inl tb_j_164
  | 5, _ => exact Or.inl tb_j_165
  | 6, _ => exact Or.inl tb_j_166
  | 7, _ => exact Or.inl tb_j_167
  | 8, _ => exact Or.inl tb_j_168
  | 9, _ => exact Or.inl tb_j_169
  | 10, _ => exact Or.inl tb_j_170
  | 11, _ => exact Or.inl tb_j_171
  | 12, _ => exact Or.inl tb_j_172
  | 13, _ => exact Or.inl tb_j_173
  | 14, _ => exact Or.inl tb_j_174
  | 15, _ => exact Or.inl tb_j_175
  | i + 16, h => omega
theorem tb_g_11 : ∀ i, i < 16 → tb_ok1 (176 + i) = true ∨ 221 ≤ 176 + i := by
  intro i hi
  match i, hi with
  | 0, _ => exact Or.inl tb_j_176
  | 1, _ => exact Or.inl tb_j_177
  | 2, _ => exact Or.inl tb_j_178
  | 3, _ => exact Or.inl tb_j_179
  | 4, _ => exact Or.inl tb_j_180
  | 5, _ => exact Or.inl tb_j_181
  | 6, _ => exact Or.inl tb_j_182
  | 7, _ => exact Or.inl tb_j_183
  | 8, _ => exact Or.inl tb_j_184
  | 9, _ => exact Or.inl tb_j_185
  | 10, _ => exact Or.inl tb_j_186
  | 11, _ => exact Or.inl tb_j_187
  | 12, _ => exact Or.inl tb_j_188
  | 13, _ => exact Or.inl tb_j_189
  | 14, _ => exact Or.inl tb_j_190
  | 15, _ => exact Or.inl tb_j_191
  | i + 16, h => omega
theorem tb_g_12 : ∀ i, i < 16 → tb_ok1 (192 + i) = true ∨ 221 ≤ 192 + i := by
  intro i hi
  match i, hi with
  | 0, _ => exact Or.inl tb_j_192
  | 1, _ => exact Or.inl tb_j_193
  | 2, _ => exact Or.inl tb_j_194
  | 3, _ => exact Or.inl tb_j_195
  | 4, _ => exact Or.inl tb_j_196
  | 5, _ => exact Or.inl tb_j_197
  | 6, _ => exact Or.inl tb_j_198
  | 7, _ => exact Or.inl tb_j_199
  | 8, _ => exact Or.inl tb_j_200
  | 9, _ => exact Or.inl tb_j_201
  | 10, _ => exact Or.inl tb_j_202
  | 11, _ => exact Or.inl tb_j_203
  | 12, _ => exact Or.inl tb_j_204
  | 13, _ => exact Or.inl tb_j_205
  | 14, _ => exact Or.inl tb_j_206
  | 15, _ => exact Or.inl tb_j_207
  | i + 16, h => omega
theorem tb_g_13 : ∀ i, i < 16 → tb_ok1 (208 + i) = true ∨ 221 ≤ 208 + i := by
  intro i hi
  match i, hi with
  | 0, _ => exact Or.inl tb_j_208
  | 1, _ => exact Or.inl tb_j_209
  | 2, _ => exact Or.inl tb_j_210
  | 3, _ => exact Or.inl tb_j_211
  | 4, _ => exact Or.inl tb_j_212
  | 5, _ => exact Or.inl tb_j_213
  | 6, _ => exact Or.inl tb_j_214
  | 7, _ => exact Or.inl tb_j_215
  | 8, _ => exact Or.inl tb_j_216
  | 9, _ => exact Or.inl tb_j_217
  | 10, _ => exact Or.inl tb_j_218
  | 11, _ => exact Or.inl tb_j_219
  | 12, _ => exact Or.inl tb_j_220
  | 13, _ => exact Or.inr (by omega)
  | 14, _ => exact Or.inr (by omega)
  | 15, _ => exact Or.inr (by omega)
  | i + 16, h => omega
theorem tb_ok1_all : ∀ j, tb_ok1 j = true := by
  intro j
  have hout : 221 ≤ j → tb_ok1 j = true := by
    intro hj
    unfold tb_ok1
    rw [List.getD_eq_getElem?_getD, List.getElem?_eq_none (by have hl : tb_Ils.length = 221 := rfl
                                                              omega)]
    rfl
  by_cases hj : 221 ≤ j
  · exact hout hj
  · have e : j = 16 * (j / 16) + j % 16 := by omega
    have hm : j % 16 < 16 := Nat.mod_lt _ (by decide)
    have hd : j / 16 < 14 := by omega
    generalize j / 16 = g at e hd
    generalize j % 16 = i at e hm
    subst e
    match g, hd with
    | 0, _ => exact (tb_g_0 i hm).elim (fun h => h) hout
    | 1, _ => exact (tb_g_1 i hm).elim (fun h => h) hout
    | 2, _ => exact (tb_g_2 i hm).elim (fun h => h) hout
    | 3, _ => exact (tb_g_3 i hm).elim (fun h => h) hout
    | 4, _ => exact (tb_g_4 i hm).elim (fun h => h) hout
    | 5, _ => exact (tb_g_5 i hm).elim (fun h => h) hout
    | 6, _ => exact (tb_g_6 i hm).elim (fun h => h) hout
    | 7, _ => exact (tb_g_7 i hm).elim (fun h => h) hout
    | 8, _ => exact (tb_g_8 i hm).elim (fun h => h) hout
    | 9, _ => exact (tb_g_9 i hm).elim (fun h => h) hout
    | 10, _ => exact (tb_g_10 i hm).elim (fun h => h) hout
    | 11, _ => exact (tb_g_11 i hm).elim (fun h => h) hout
    | 12, _ => exact (tb_g_12 i hm).elim (fun h => h) hout
    | 13, _ => exact (tb_g_13 i hm).elim (fun h => h) hout
    | g + 14, h => omega
theorem tb_T_ok : sy_tok tb_P tb_T := by
  intro j pc i h
  have h : sy_find pc (sy_pick pc (tb_Ils.getD j [])) = some i := h
  rcases sy_pick_mem (n := pc) (l := tb_Ils.getD j []) with h1 | ⟨k, h1⟩
  · rw [h1] at h; cases h
  · have h2 := List.all_eq_true.mp (tb_ok1_all j) _ h1
    have h3 := List.all_eq_true.mp h2 _ (sy_find_mem h)
    unfold tb_chk at h3
    simp only [Bool.and_eq_true, decide_eq_true_eq, Option.isNone_iff_eq_none] at h3
    exact h3
