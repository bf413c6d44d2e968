theorem dX12_fill_28 : decode cX12_fill 28 = .ok (.if_icmp .ge 11, 3) := by decide +kernel
theorem dX12_fill_31 : decode cX12_fill 31 = .ok (.aload_n 0, 1) := by decide +kernel
theorem dX12_fill_32 : decode cX12_fill 32 = .ok (.iload_n 3, 1) := by decide +kernel
theorem dX12_fill_33 : decode cX12_fill 33 = .ok (.invokevirtual 136, 3) := by decide +kernel
theorem dX12_fill_36 : decode cX12_fill 36 = .ok (.goto 9, 3) := by decide +kernel
theorem dX12_fill_39 : decode cX12_fill 39 = .ok (.aload_n 0, 1) := by decide +kernel
theorem dX12_fill_40 : decode cX12_fill 40 = .ok (.getfield 58, 3) := by decide +kernel
theorem dX12_fill_43 : decode cX12_fill 43 = .ok (.iload_n 1, 1) := by decide +kernel
theorem dX12_fill_44 : decode cX12_fill 44 = .ok (.iaload, 1) := by decide +kernel
theorem dX12_fill_45 : decode cX12_fill 45 = .ok (.istore 5, 2) := by decide +kernel
theorem dX12_fill_47 : decode cX12_fill 47 = .ok (.iconst 0, 1) := by decide +kernel
theorem dX12_fill_48 : decode cX12_fill 48 = .ok (.istore 6, 2) := by decide +kernel
theorem dX12_fill_50 : decode cX12_fill 50 = .ok (.iload 6, 2) := by decide +kernel
theorem dX12_fill_52 : decode cX12_fill 52 = .ok (.iload 5, 2) := by decide +kernel
theorem dX12_fill_54 : decode cX12_fill 54 = .ok (.if_icmp .ge 23, 3) := by decide +kernel
theorem dX12_fill_57 : decode cX12_fill 57 = .ok (.aload_n 0, 1) := by decide +kernel
theorem dX12_fill_58 : decode cX12_fill 58 = .ok (.iload_n 1, 1) := by decide +kernel
theorem dX12_fill_59 : decode cX12_fill 59 = .ok (.iload 6, 2) := by decide +kernel
theorem dX12_fill_61 : decode cX12_fill 61 = .ok (.aload_n 0, 1) := by decide +kernel
theorem dX12_fill_62 : decode cX12_fill 62 = .ok (.iload_n 3, 1) := by decide +kernel
theorem dX12_fill_63 : decode cX12_fill 63 = .ok (.iload 6, 2) := by decide +kernel
theorem dX12_fill_65 : decode cX12_fill 65 = .ok (.invokevirtual 140, 3) := by decide +kernel
theorem dX12_fill_68 : decode cX12_fill 68 = .ok (.invokevirtual 308, 3) := by decide +kernel
theorem dX12_fill_71 : decode cX12_fill 71 = .ok (.iinc 6 1, 3) := by decide +kernel
theorem dX12_fill_74 : decode cX12_fill 74 = .ok (.goto (-24), 3) := by decide +kernel
theorem dX12_fill_77 : decode cX12_fill 77 = .ok (.iload 5, 2) := by decide +kernel
theorem dX12_fill_79 : decode cX12_fill 79 = .ok (.ireturn, 1) := by decide +kernel
theorem dX12_judge_0 : decode cX12_judge 0 = .ok (.aload_n 0, 1) := by decide +kernel
theorem dX12_judge_1 : decode cX12_judge 1 = .ok (.iload_n 1, 1) := by decide +kernel
theorem dX12_judge_2 : decode cX12_judge 2 = .ok (.iload_n 2, 1) := by decide +kernel
theorem dX12_judge_3 : decode cX12_judge 3 = .ok (.iload_n 3, 1) := by decide +kernel
theorem dX12_judge_4 : decode cX12_judge 4 = .ok (.invokevirtual 312, 3) := by decide +kernel
theorem dX12_judge_7 : decode cX12_judge 7 = .ok (.istore 4, 2) := by decide +kernel
theorem dX12_judge_9 : decode cX12_judge 9 = .ok (.iload 4, 2) := by decide +kernel
theorem dX12_judge_11 : decode cX12_judge 11 = .ok (.ifCond .ge 6, 3) := by decide +kernel
theorem dX12_judge_14 : decode cX12_judge 14 = .ok (.iload 4, 2) := by decide +kernel
theorem dX12_judge_16 : decode cX12_judge 16 = .ok (.ireturn, 1) := by decide +kernel
theorem dX12_judge_17 : decode cX12_judge 17 = .ok (.iconst 0, 1) := by decide +kernel
theorem dX12_judge_18 : decode cX12_judge 18 = .ok (.istore 5, 2) := by decide +kernel
theorem dX12_judge_20 : decode cX12_judge 20 = .ok (.iload 5, 2) := by decide +kernel
theorem dX12_judge_22 : decode cX12_judge 22 = .ok (.aload_n 0, 1) := by decide +kernel
theorem dX12_judge_23 : decode cX12_judge 23 = .ok (.getfield 58, 3) := by decide +kernel
theorem dX12_judge_26 : decode cX12_judge 26 = .ok (.iload_n 1, 1) := by decide +kernel
theorem dX12_judge_27 : decode cX12_judge 27 = .ok (.iaload, 1) := by decide +kernel
theorem dX12_judge_28 : decode cX12_judge 28 = .ok (.if_icmp .ge 45, 3) := by decide +kernel
theorem dX12_judge_31 : decode cX12_judge 31 = .ok (.iload 5, 2) := by decide +kernel
theorem dX12_judge_33 : decode cX12_judge 33 = .ok (.aload_n 0, 1) := by decide +kernel
theorem dX12_judge_34 : decode cX12_judge 34 = .ok (.iload_n 3, 1) := by decide +kernel
theorem dX12_judge_35 : decode cX12_judge 35 = .ok (.invokevirtual 136, 3) := by decide +kernel
theorem dX12_judge_38 : decode cX12_judge 38 = .ok (.if_icmp .ge 26, 3) := by decide +kernel
theorem dX12_judge_41 : decode cX12_judge 41 = .ok (.aload_n 0, 1) := by decide +kernel
theorem dX12_judge_42 : decode cX12_judge 42 = .ok (.getfield 61, 3) := by decide +kernel
theorem dX12_judge_45 : decode cX12_judge 45 = .ok (.bipush 30, 2) := by decide +kernel
theorem dX12_judge_47 : decode cX12_judge 47 = .ok (.iload_n 1, 1) := by decide +kernel
theorem dX12_judge_48 : decode cX12_judge 48 = .ok (.imul, 1) := by decide +kernel
theorem dX12_judge_49 : decode cX12_judge 49 = .ok (.iload 5, 2) := by decide +kernel
theorem dX12_judge_51 : decode cX12_judge 51 = .ok (.iadd, 1) := by decide +kernel
theorem dX12_judge_52 : decode cX12_judge 52 = .ok (.laload, 1) := by decide +kernel
theorem dX12_judge_53 : decode cX12_judge 53 = .ok (.aload_n 0, 1) := by decide +kernel
theorem dX12_judge_54 : decode cX12_judge 54 = .ok (.iload_n 3, 1) := by decide +kernel
theorem dX12_judge_55 : decode cX12_judge 55 = .ok (.iload 5, 2) := by decide +kernel
theorem dX12_judge_57 : decode cX12_judge 57 = .ok (.invokevirtual 140, 3) := by decide +kernel
theorem dX12_judge_60 : decode cX12_judge 60 = .ok (.lcmp, 1) := by decide +kernel
theorem dX12_judge_61 : decode cX12_judge 61 = .ok (.ifCond .eq 6, 3) := by decide +kernel
theorem dX12_judge_64 : decode cX12_judge 64 = .ok (.iload 5, 2) := by decide +kernel
theorem dX12_judge_66 : decode cX12_judge 66 = .ok (.ireturn, 1) := by decide +kernel
theorem dX12_judge_67 : decode cX12_judge 67 = .ok (.iinc 5 1, 3) := by decide +kernel
theorem dX12_judge_70 : decode cX12_judge 70 = .ok (.goto (-50), 3) := by decide +kernel
theorem dX12_judge_73 : decode cX12_judge 73 = .ok (.iconst (-1), 1) := by decide +kernel
theorem dX12_judge_74 : decode cX12_judge 74 = .ok (.ireturn, 1) := by decide +kernel
theorem dX12_copy_0 : decode cX12_copy 0 = .ok (.iload_n 1, 1) := by decide +kernel
theorem dX12_copy_1 : decode cX12_copy 1 = .ok (.invokestatic 303, 3) := by decide +kernel
theorem dX12_copy_4 : decode cX12_copy 4 = .ok (.ifCond .eq 10, 3) := by decide +kernel
theorem dX12_copy_7 : decode cX12_copy 7 = .ok (.iload_n 3, 1) := by decide +kernel
theorem dX12_copy_8 : decode cX12_copy 8 = .ok (.invokestatic 303, 3) := by decide +kernel
theorem dX12_copy_11 : decode cX12_copy 11 = .ok (.ifCond .ne 5, 3) := by decide +kernel
theorem dX12_copy_14 : decode cX12_copy 14 = .ok (.iconst (-1), 1) := by decide +kernel
theorem dX12_copy_15 : decode cX12_copy 15 = .ok (.ireturn, 1) := by decide +kernel
theorem dX12_copy_16 : decode cX12_copy 16 = .ok (.aload_n 0, 1) := by decide +kernel
theorem dX12_copy_17 : decode cX12_copy 17 = .ok (.getfield 55, 3) := by decide +kernel
theorem dX12_copy_20 : decode cX12_copy 20 = .ok (.iload_n 1, 1) := by decide +kernel
theorem dX12_copy_21 : decode cX12_copy 21 = .ok (.iaload, 1) := by decide +kernel
theorem dX12_copy_22 : decode cX12_copy 22 = .ok (.ifCond .lt 12, 3) := by decide +kernel
theorem dX12_copy_25 : decode cX12_copy 25 = .ok (.aload_n 0, 1) := by decide +kernel
theorem dX12_copy_26 : decode cX12_copy 26 = .ok (.getfield 55, 3) := by decide +kernel
theorem dX12_copy_29 : decode cX12_copy 29 = .ok (.iload_n 3, 1) := by decide +kernel
theorem dX12_copy_30 : decode cX12_copy 30 = .ok (.iaload, 1) := by decide +kernel
theorem dX12_copy_31 : decode cX12_copy 31 = .ok (.ifCond .ge 6, 3) := by decide +kernel
theorem dX12_copy_34 : decode cX12_copy 34 = .ok (.bipush (-11), 2) := by decide +kernel
theorem dX12_copy_36 : decode cX12_copy 36 = .ok (.ireturn, 1) := by decide +kernel
theorem dX12_copy_37 : decode cX12_copy 37 = .ok (.aload_n 0, 1) := by decide +kernel
theorem dX12_copy_38 : decode cX12_copy 38 = .ok (.getfield 55, 3) := by decide +kernel
theorem dX12_copy_41 : decode cX12_copy 41 = .ok (.iload_n 1, 1) := by decide +kernel
theorem dX12_copy_42 : decode cX12_copy 42 = .ok (.iaload, 1) := by decide +kernel
theorem dX12_copy_43 : decode cX12_copy 43 = .ok (.aload_n 0, 1) := by decide +kernel
theorem dX12_copy_44 : decode cX12_copy 44 = .ok (.getfield 55, 3) := by decide +kernel
theorem dX12_copy_47 : decode cX12_copy 47 = .ok (.iload_n 3, 1) := by decide +kernel
theorem dX12_copy_48 : decode cX12_copy 48 = .ok (.iaload, 1) := by decide +kernel
theorem dX12_copy_49 : decode cX12_copy 49 = .ok (.if_icmp .eq 6, 3) := by decide +kernel
theorem dX12_copy_52 : decode cX12_copy 52 = .ok (.bipush (-12), 2) := by decide +kernel
theorem dX12_copy_54 : decode cX12_copy 54 = .ok (.ireturn, 1) := by decide +kernel
theorem dX12_copy_55 : decode cX12_copy 55 = .ok (.iload 5, 2) := by decide +kernel
theorem dX12_copy_57 : decode cX12_copy 57 = .ok (.ifCond .lt 39, 3) := by decide +kernel
theorem dX12_copy_60 : decode cX12_copy 60 = .ok (.iload_n 2, 1) := by decide +kernel
theorem dX12_copy_61 : decode cX12_copy 61 = .ok (.ifCond .lt 35, 3) := by decide +kernel
theorem dX12_copy_64 : decode cX12_copy 64 = .ok (.iload 4, 2) := by decide +kernel
theorem dX12_copy_66 : decode cX12_copy 66 = .ok (.ifCond .lt 30, 3) := by decide +kernel
theorem dX12_copy_69 : decode cX12_copy 69 = .ok (.iload_n 2, 1) := by decide +kernel
theorem dX12_copy_70 : decode cX12_copy 70 = .ok (.aload_n 0, 1) := by decide +kernel
theorem dX12_copy_71 : decode cX12_copy 71 = .ok (.getfield 58, 3) := by decide +kernel
theorem dX12_copy_74 : decode cX12_copy 74 = .ok (.iload_n 1, 1) := by decide +kernel
theorem dX12_copy_75 : decode cX12_copy 75 = .ok (.iaload, 1) := by decide +kernel
theorem dX12_copy_76 : decode cX12_copy 76 = .ok (.iload 5, 2) := by decide +kernel
theorem dX12_copy_78 : decode cX12_copy 78 = .ok (.isub, 1) := by decide +kernel
theorem dX12_copy_79 : decode cX12_copy 79 = .ok (.if_icmp .gt 17, 3) := by decide +kernel
theorem dX12_copy_82 : decode cX12_copy 82 = .ok (.iload 4, 2) := by decide +kernel
theorem dX12_copy_84 : decode cX12_copy 84 = .ok (.aload_n 0, 1) := by decide +kernel
theorem dX12_copy_85 : decode cX12_copy 85 = .ok (.getfield 58, 3) := by decide +kernel
theorem dX12_copy_88 : decode cX12_copy 88 = .ok (.iload_n 3, 1) := by decide +kernel
theorem dX12_copy_89 : decode cX12_copy 89 = .ok (.iaload, 1) := by decide +kernel
theorem dX12_copy_90 : decode cX12_copy 90 = .ok (.iload 5, 2) := by decide +kernel
theorem dX12_copy_92 : decode cX12_copy 92 = .ok (.isub, 1) := by decide +kernel
theorem dX12_copy_93 : decode cX12_copy 93 = .ok (.if_icmp .le 6, 3) := by decide +kernel
theorem dX12_copy_96 : decode cX12_copy 96 = .ok (.bipush (-13), 2) := by decide +kernel
theorem dX12_copy_98 : decode cX12_copy 98 = .ok (.ireturn, 1) := by decide +kernel
theorem dX12_copy_99 : decode cX12_copy 99 = .ok (.iconst 0, 1) := by decide +kernel
theorem dX12_copy_100 : decode cX12_copy 100 = .ok (.istore 6, 2) := by decide +kernel
theorem dX12_copy_102 : decode cX12_copy 102 = .ok (.iload 6, 2) := by decide +kernel
theorem dX12_copy_104 : decode cX12_copy 104 = .ok (.iload 5, 2) := by decide +kernel
theorem dX12_copy_106 : decode cX12_copy 106 = .ok (.if_icmp .ge 30, 3) := by decide +kernel
theorem dX12_copy_109 : decode cX12_copy 109 = .ok (.aload_n 0, 1) := by decide +kernel
theorem dX12_copy_110 : decode cX12_copy 110 = .ok (.getfield 64, 3) := by decide +kernel
theorem dX12_copy_113 : decode cX12_copy 113 = .ok (.iload 6, 2) := by decide +kernel
theorem dX12_copy_115 : decode cX12_copy 115 = .ok (.aload_n 0, 1) := by decide +kernel
theorem dX12_copy_116 : decode cX12_copy 116 = .ok (.getfield 61, 3) := by decide +kernel
theorem dX12_copy_119 : decode cX12_copy 119 = .ok (.bipush 30, 2) := by decide +kernel
theorem dX12_copy_121 : decode cX12_copy 121 = .ok (.iload_n 1, 1) := by decide +kernel
theorem dX12_copy_122 : decode cX12_copy 122 = .ok (.imul, 1) := by decide +kernel
theorem dX12_copy_123 : decode cX12_copy 123 = .ok (.iload_n 2, 1) := by decide +kernel
theorem dX12_copy_124 : decode cX12_copy 124 = .ok (.iadd, 1) := by decide +kernel
theorem dX12_copy_125 : decode cX12_copy 125 = .ok (.iload 6, 2) := by decide +kernel
theorem dX12_copy_127 : decode cX12_copy 127 = .ok (.iadd, 1) := by decide +kernel
theorem dX12_copy_128 : decode cX12_copy 128 = .ok (.laload, 1) := by decide +kernel
theorem dX12_copy_129 : decode cX12_copy 129 = .ok (.lastore, 1) := by decide +kernel
theorem dX12_copy_130 : decode cX12_copy 130 = .ok (.iinc 6 1, 3) := by decide +kernel
theorem dX12_copy_133 : decode cX12_copy 133 = .ok (.goto (-31), 3) := by decide +kernel
theorem dX12_copy_136 : decode cX12_copy 136 = .ok (.iconst 0, 1) := by decide +kernel
theorem dX12_copy_137 : decode cX12_copy 137 = .ok (.istore 6, 2) := by decide +kernel
theorem dX12_copy_139 : decode cX12_copy 139 = .ok (.iload 6, 2) := by decide +kernel
theorem dX12_copy_141 : decode cX12_copy 141 = .ok (.iload 5, 2) := by decide +kernel
theorem dX12_copy_143 : decode cX12_copy 143 = .ok (.if_icmp .ge 31, 3) := by decide +kernel
theorem dX12_copy_146 : decode cX12_copy 146 = .ok (.aload_n 0, 1) := by decide +kernel
theorem dX12_copy_147 : decode cX12_copy 147 = .ok (.getfield 61, 3) := by decide +kernel
theorem dX12_copy_150 : decode cX12_copy 150 = .ok (.bipush 30, 2) := by decide +kernel
theorem dX12_copy_152 : decode cX12_copy 152 = .ok (.iload_n 3, 1) := by decide +kernel
theorem dX12_copy_153 : decode cX12_copy 153 = .ok (.imul, 1) := by decide +kernel
theorem dX12_copy_154 : decode cX12_copy 154 = .ok (.iload 4, 2) := by decide +kernel
theorem dX12_copy_156 : decode cX12_copy 156 = .ok (.iadd, 1) := by decide +kernel
theorem dX12_copy_157 : decode cX12_copy 157 = .ok (.iload 6, 2) := by decide +kernel
theorem dX12_copy_159 : decode cX12_copy 159 = .ok (.iadd, 1) := by decide +kernel
theorem dX12_copy_160 : decode cX12_copy 160 = .ok (.aload_n 0, 1) := by decide +kernel
theorem dX12_copy_161 : decode cX12_copy 161 = .ok (.getfield 64, 3) := by decide +kernel
theorem dX12_copy_164 : decode cX12_copy 164 = .ok (.iload 6, 2) := by decide +kernel
theorem dX12_copy_166 : decode cX12_copy 166 = .ok (.laload, 1) := by decide +kernel
theorem dX12_copy_167 : decode cX12_copy 167 = .ok (.lastore, 1) := by decide +kernel
theorem dX12_copy_168 : decode cX12_copy 168 = .ok (.iinc 6 1, 3) := by decide +kernel
theorem dX12_copy_171 : decode cX12_copy 171 = .ok (.goto (-32), 3) := by decide +kernel
theorem dX12_copy_174 : decode cX12_copy 174 = .ok (.iload 5, 2) := by decide +kernel
theorem dX12_copy_176 : decode cX12_copy 176 = .ok (.ireturn, 1) := by decide +kernel
theorem dX12_count_0 : decode cX12_count 0 = .ok (.iload_n 1, 1) := by decide +kernel
theorem dX12_count_1 : decode cX12_count 1 = .ok (.tableswitch 89 0 5 #[39, 47, 52, 57, 69, 81], 39) := by decide +kernel
theorem dX12_count_40 : decode cX12_count 40 = .ok (.aload_n 0, 1) := by decide +kernel
theorem dX12_count_41 : decode cX12_count 41 = .ok (.getfield 11, 3) := by decide +kernel
theorem dX12_count_44 : decode cX12_count 44 = .ok (.bipush 15, 2) := by decide +kernel
theorem dX12_count_46 : decode cX12_count 46 = .ok (.iaload, 1) := by decide +kernel
theorem dX12_count_47 : decode cX12_count 47 = .ok (.ireturn, 1) := by decide +kernel
theorem dX12_count_48 : decode cX12_count 48 = .ok (.aload_n 0, 1) := by decide +kernel
theorem dX12_count_49 : decode cX12_count 49 = .ok (.getfield 253, 3) := by decide +kernel
theorem dX12_count_52 : decode cX12_count 52 = .ok (.ireturn, 1) := by decide +kernel
theorem dX12_count_53 : decode cX12_count 53 = .ok (.aload_n 0, 1) := by decide +kernel
theorem dX12_count_54 : decode cX12_count 54 = .ok (.getfield 291, 3) := by decide +kernel
theorem dX12_count_57 : decode cX12_count 57 = .ok (.ireturn, 1) := by decide +kernel
theorem dX12_count_58 : decode cX12_count 58 = .ok (.aload_n 0, 1) := by decide +kernel
theorem dX12_count_59 : decode cX12_count 59 = .ok (.iconst 0, 1) := by decide +kernel
theorem dX12_count_60 : decode cX12_count 60 = .ok (.invokevirtual 316, 3) := by decide +kernel
theorem dX12_count_63 : decode cX12_count 63 = .ok (.aload_n 0, 1) := by decide +kernel
theorem dX12_count_64 : decode cX12_count 64 = .ok (.iconst 1, 1) := by decide +kernel
theorem dX12_count_65 : decode cX12_count 65 = .ok (.invokevirtual 316, 3) := by decide +kernel
theorem dX12_count_68 : decode cX12_count 68 = .ok (.iadd, 1) := by decide +kernel
theorem dX12_count_69 : decode cX12_count 69 = .ok (.ireturn, 1) := by decide +kernel
theorem dX12_count_70 : decode cX12_count 70 = .ok (.aload_n 0, 1) := by decide +kernel
theorem dX12_count_71 : decode cX12_count 71 = .ok (.getfield 11, 3) := by decide +kernel
theorem dX12_count_74 : decode cX12_count 74 = .ok (.bipush 14, 2) := by decide +kernel
theorem dX12_count_76 : decode cX12_count 76 = .ok (.iaload, 1) := by decide +kernel
theorem dX12_count_77 : decode cX12_count 77 = .ok (.sipush 1000, 3) := by decide +kernel
theorem dX12_count_80 : decode cX12_count 80 = .ok (.iadd, 1) := by decide +kernel
theorem dX12_count_81 : decode cX12_count 81 = .ok (.ireturn, 1) := by decide +kernel
theorem dX12_count_82 : decode cX12_count 82 = .ok (.aload_n 0, 1) := by decide +kernel
theorem dX12_count_83 : decode cX12_count 83 = .ok (.getfield 11, 3) := by decide +kernel
theorem dX12_count_86 : decode cX12_count 86 = .ok (.bipush 32, 2) := by decide +kernel
theorem dX12_count_88 : decode cX12_count 88 = .ok (.iaload, 1) := by decide +kernel
theorem dX12_count_89 : decode cX12_count 89 = .ok (.ireturn, 1) := by decide +kernel
theorem dX12_count_90 : decode cX12_count 90 = .ok (.bipush (-2), 2) := by decide +kernel
theorem dX12_count_92 : decode cX12_count 92 = .ok (.ireturn, 1) := by decide +kernel
theorem dX12_isFactor_0 : decode cX12_isFactor 0 = .ok (.iload_n 1, 1) := by decide +kernel
theorem dX12_isFactor_1 : decode cX12_isFactor 1 = .ok (.i2l, 1) := by decide +kernel
theorem dX12_isFactor_2 : decode cX12_isFactor 2 = .ok (.lconst 0, 1) := by decide +kernel
theorem dX12_isFactor_3 : decode cX12_isFactor 3 = .ok (.aload_n 0, 1) := by decide +kernel
theorem dX12_isFactor_4 : decode cX12_isFactor 4 = .ok (.getfield 11, 3) := by decide +kernel
theorem dX12_isFactor_7 : decode cX12_isFactor 7 = .ok (.bipush 32, 2) := by decide +kernel
theorem dX12_isFactor_9 : decode cX12_isFactor 9 = .ok (.iaload, 1) := by decide +kernel
theorem dX12_isFactor_10 : decode cX12_isFactor 10 = .ok (.iconst 1, 1) := by decide +kernel
theorem dX12_isFactor_11 : decode cX12_isFactor 11 = .ok (.isub, 1) := by decide +kernel
theorem dX12_isFactor_12 : decode cX12_isFactor 12 = .ok (.i2l, 1) := by decide +kernel
theorem dX12_isFactor_13 : decode cX12_isFactor 13 = .ok (.invokestatic 83, 3) := by decide +kernel
theorem dX12_isFactor_16 : decode cX12_isFactor 16 = .ok (.ireturn, 1) := by decide +kernel
theorem dX12_factor_0 : decode cX12_factor 0 = .ok (.iload_n 1, 1) := by decide +kernel
theorem dX12_factor_1 : decode cX12_factor 1 = .ok (.i2l, 1) := by decide +kernel
theorem dX12_factor_2 : decode cX12_factor 2 = .ok (.lconst 0, 1) := by decide +kernel
theorem dX12_factor_3 : decode cX12_factor 3 = .ok (.ldc2_w 105, 3) := by decide +kernel
theorem dX12_factor_6 : decode cX12_factor 6 = .ok (.invokestatic 83, 3) := by decide +kernel
theorem dX12_factor_9 : decode cX12_factor 9 = .ok (.ifCond .ne 5, 3) := by decide +kernel
theorem dX12_factor_12 : decode cX12_factor 12 = .ok (.iconst (-1), 1) := by decide +kernel
theorem dX12_factor_13 : decode cX12_factor 13 = .ok (.ireturn, 1) := by decide +kernel
theorem dX12_factor_14 : decode cX12_factor 14 = .ok (.iload_n 1, 1) := by decide +kernel
theorem dX12_factor_15 : decode cX12_factor 15 = .ok (.iconst 2, 1) := by decide +kernel
theorem dX12_factor_16 : decode cX12_factor 16 = .ok (.if_icmp .ge 17, 3) := by decide +kernel
theorem dX12_factor_19 : decode cX12_factor 19 = .ok (.iload_n 2, 1) := by decide +kernel
theorem dX12_factor_20 : decode cX12_factor 20 = .ok (.i2l, 1) := by decide +kernel
theorem dX12_factor_21 : decode cX12_factor 21 = .ok (.ldc2_w 197, 3) := by decide +kernel
theorem dX12_factor_24 : decode cX12_factor 24 = .ok (.ldc2_w 199, 3) := by decide +kernel
theorem dX12_factor_27 : decode cX12_factor 27 = .ok (.invokestatic 83, 3) := by decide +kernel
theorem dX12_factor_30 : decode cX12_factor 30 = .ok (.ifCond .eq 24, 3) := by decide +kernel
theorem dX12_factor_33 : decode cX12_factor 33 = .ok (.iload_n 1, 1) := by decide +kernel
theorem dX12_factor_34 : decode cX12_factor 34 = .ok (.iconst 2, 1) := by decide +kernel
theorem dX12_factor_35 : decode cX12_factor 35 = .ok (.irem, 1) := by decide +kernel
theorem dX12_factor_36 : decode cX12_factor 36 = .ok (.iconst 1, 1) := by decide +kernel
theorem dX12_factor_37 : decode cX12_factor 37 = .ok (.if_icmp .ne 20, 3) := by decide +kernel
theorem dX12_factor_40 : decode cX12_factor 40 = .ok (.iload_n 3, 1) := by decide +kernel
theorem dX12_factor_41 : decode cX12_factor 41 = .ok (.i2l, 1) := by decide +kernel
theorem dX12_factor_42 : decode cX12_factor 42 = .ok (.ldc2_w 197, 3) := by decide +kernel
theorem dX12_factor_45 : decode cX12_factor 45 = .ok (.ldc2_w 199, 3) := by decide +kernel
theorem dX12_factor_48 : decode cX12_factor 48 = .ok (.invokestatic 83, 3) := by decide +kernel
theorem dX12_factor_51 : decode cX12_factor 51 = .ok (.ifCond .ne 6, 3) := by decide +kernel
theorem dX12_factor_54 : decode cX12_factor 54 = .ok (.bipush (-2), 2) := by decide +kernel
theorem dX12_factor_56 : decode cX12_factor 56 = .ok (.ireturn, 1) := by decide +kernel
theorem dX12_factor_57 : decode cX12_factor 57 = .ok (.aload_n 0, 1) := by decide +kernel
theorem dX12_factor_58 : decode cX12_factor 58 = .ok (.getfield 11, 3) := by decide +kernel
theorem dX12_factor_61 : decode cX12_factor 61 = .ok (.bipush 32, 2) := by decide +kernel
theorem dX12_factor_63 : decode cX12_factor 63 = .ok (.iaload, 1) := by decide +kernel
theorem dX12_factor_64 : decode cX12_factor 64 = .ok (.istore 4, 2) := by decide +kernel
theorem dX12_factor_66 : decode cX12_factor 66 = .ok (.iload 4, 2) := by decide +kernel
theorem dX12_factor_68 : decode cX12_factor 68 = .ok (.bipush 6, 2) := by decide +kernel
theorem dX12_factor_70 : decode cX12_factor 70 = .ok (.if_icmp .ne 6, 3) := by decide +kernel
theorem dX12_factor_73 : decode cX12_factor 73 = .ok (.bipush (-4), 2) := by decide +kernel
theorem dX12_factor_75 : decode cX12_factor 75 = .ok (.ireturn, 1) := by decide +kernel
theorem dX12_factor_76 : decode cX12_factor 76 = .ok (.aload_n 0, 1) := by decide +kernel
theorem dX12_factor_77 : decode cX12_factor 77 = .ok (.getfield 11, 3) := by decide +kernel
theorem dX12_factor_80 : decode cX12_factor 80 = .ok (.bipush 33, 2) := by decide +kernel
theorem dX12_factor_82 : decode cX12_factor 82 = .ok (.iload 4, 2) := by decide +kernel
theorem dX12_factor_84 : decode cX12_factor 84 = .ok (.iadd, 1) := by decide +kernel
theorem dX12_factor_85 : decode cX12_factor 85 = .ok (.iload_n 1, 1) := by decide +kernel
theorem dX12_factor_86 : decode cX12_factor 86 = .ok (.iastore, 1) := by decide +kernel
theorem dX12_factor_87 : decode cX12_factor 87 = .ok (.aload_n 0, 1) := by decide +kernel
theorem dX12_factor_88 : decode cX12_factor 88 = .ok (.getfield 11, 3) := by decide +kernel
theorem dX12_factor_91 : decode cX12_factor 91 = .ok (.bipush 39, 2) := by decide +kernel
theorem dX12_factor_93 : decode cX12_factor 93 = .ok (.iload 4, 2) := by decide +kernel
theorem dX12_factor_95 : decode cX12_factor 95 = .ok (.iadd, 1) := by decide +kernel
theorem dX12_factor_96 : decode cX12_factor 96 = .ok (.iload_n 1, 1) := by decide +kernel
theorem dX12_factor_97 : decode cX12_factor 97 = .ok (.iconst 2, 1) := by decide +kernel
theorem dX12_factor_98 : decode cX12_factor 98 = .ok (.if_icmp .ge 7, 3) := by decide +kernel
theorem dX12_factor_101 : decode cX12_factor 101 = .ok (.iload_n 2, 1) := by decide +kernel
theorem dX12_factor_102 : decode cX12_factor 102 = .ok (.goto 4, 3) := by decide +kernel
theorem dX12_factor_105 : decode cX12_factor 105 = .ok (.iconst 0, 1) := by decide +kernel
theorem dX12_factor_106 : decode cX12_factor 106 = .ok (.iastore, 1) := by decide +kernel
theorem dX12_factor_107 : decode cX12_factor 107 = .ok (.aload_n 0, 1) := by decide +kernel
theorem dX12_factor_108 : decode cX12_factor 108 = .ok (.getfield 11, 3) := by decide +kernel
theorem dX12_factor_111 : decode cX12_factor 111 = .ok (.bipush 45, 2) := by decide +kernel
theorem dX12_factor_113 : decode cX12_factor 113 = .ok (.iload 4, 2) := by decide +kernel
theorem dX12_factor_115 : decode cX12_factor 115 = .ok (.iadd, 1) := by decide +kernel
theorem dX12_factor_116 : decode cX12_factor 116 = .ok (.iload_n 1, 1) := by decide +kernel
theorem dX12_factor_117 : decode cX12_factor 117 = .ok (.iconst 2, 1) := by decide +kernel
theorem dX12_factor_118 : decode cX12_factor 118 = .ok (.irem, 1) := by decide +kernel
theorem dX12_factor_119 : decode cX12_factor 119 = .ok (.iconst 1, 1) := by decide +kernel
theorem dX12_factor_120 : decode cX12_factor 120 = .ok (.if_icmp .ne 7, 3) := by decide +kernel
theorem dX12_factor_123 : decode cX12_factor 123 = .ok (.iload_n 3, 1) := by decide +kernel
theorem dX12_factor_124 : decode cX12_factor 124 = .ok (.goto 4, 3) := by decide +kernel
theorem dX12_factor_127 : decode cX12_factor 127 = .ok (.iconst 0, 1) := by decide +kernel
theorem dX12_factor_128 : decode cX12_factor 128 = .ok (.iastore, 1) := by decide +kernel
theorem dX12_factor_129 : decode cX12_factor 129 = .ok (.aload_n 0, 1) := by decide +kernel
theorem dX12_factor_130 : decode cX12_factor 130 = .ok (.getfield 11, 3) := by decide +kernel
theorem dX12_factor_133 : decode cX12_factor 133 = .ok (.bipush 32, 2) := by decide +kernel
theorem dX12_factor_135 : decode cX12_factor 135 = .ok (.dup2, 1) := by decide +kernel
theorem dX12_factor_136 : decode cX12_factor 136 = .ok (.iaload, 1) := by decide +kernel
theorem dX12_factor_137 : decode cX12_factor 137 = .ok (.iconst 1, 1) := by decide +kernel
theorem dX12_factor_138 : decode cX12_factor 138 = .ok (.iadd, 1) := by decide +kernel
theorem dX12_factor_139 : decode cX12_factor 139 = .ok (.iastore, 1) := by decide +kernel
theorem dX12_factor_140 : decode cX12_factor 140 = .ok (.aload_n 0, 1) := by decide +kernel
theorem dX12_factor_141 : decode cX12_factor 141 = .ok (.getfield 11, 3) := by decide +kernel
theorem dX12_factor_144 : decode cX12_factor 144 = .ok (.bipush 32, 2) := by decide +kernel
theorem dX12_factor_146 : decode cX12_factor 146 = .ok (.iaload, 1) := by decide +kernel
theorem dX12_factor_147 : decode cX12_factor 147 = .ok (.ireturn, 1) := by decide +kernel
theorem dX12_unfactor_0 : decode cX12_unfactor 0 = .ok (.aload_n 0, 1) := by decide +kernel
theorem dX12_unfactor_1 : decode cX12_unfactor 1 = .ok (.iload_n 1, 1) := by decide +kernel
theorem dX12_unfactor_2 : decode cX12_unfactor 2 = .ok (.invokevirtual 319, 3) := by decide +kernel
theorem dX12_unfactor_5 : decode cX12_unfactor 5 = .ok (.ifCond .ne 5, 3) := by decide +kernel
theorem dX12_unfactor_8 : decode cX12_unfactor 8 = .ok (.iconst (-1), 1) := by decide +kernel
theorem dX12_unfactor_9 : decode cX12_unfactor 9 = .ok (.ireturn, 1) := by decide +kernel
theorem dX12_unfactor_10 : decode cX12_unfactor 10 = .ok (.aload_n 0, 1) := by decide +kernel
theorem dX12_unfactor_11 : decode cX12_unfactor 11 = .ok (.getfield 11, 3) := by decide +kernel
theorem dX12_unfactor_14 : decode cX12_unfactor 14 = .ok (.bipush 32, 2) := by decide +kernel
theorem dX12_unfactor_16 : decode cX12_unfactor 16 = .ok (.dup2, 1) := by decide +kernel
theorem dX12_unfactor_17 : decode cX12_unfactor 17 = .ok (.iaload, 1) := by decide +kernel
theorem dX12_unfactor_18 : decode cX12_unfactor 18 = .ok (.iconst 1, 1) := by decide +kernel
theorem dX12_unfactor_19 : decode cX12_unfactor 19 = .ok (.isub, 1) := by decide +kernel
theorem dX12_unfactor_20 : decode cX12_unfactor 20 = .ok (.iastore, 1) := by decide +kernel
theorem dX12_unfactor_21 : decode cX12_unfactor 21 = .ok (.iload_n 1, 1) := by decide +kernel
theorem dX12_unfactor_22 : decode cX12_unfactor 22 = .ok (.istore_n 2, 1) := by decide +kernel
theorem dX12_unfactor_23 : decode cX12_unfactor 23 = .ok (.iload_n 2, 1) := by decide +kernel
theorem dX12_unfactor_24 : decode cX12_unfactor 24 = .ok (.aload_n 0, 1) := by decide +kernel
theorem dX12_unfactor_25 : decode cX12_unfactor 25 = .ok (.getfield 11, 3) := by decide +kernel
theorem dX12_unfactor_28 : decode cX12_unfactor 28 = .ok (.bipush 32, 2) := by decide +kernel
theorem dX12_unfactor_30 : decode cX12_unfactor 30 = .ok (.iaload, 1) := by decide +kernel
theorem dX12_unfactor_31 : decode cX12_unfactor 31 = .ok (.if_icmp .ge 69, 3) := by decide +kernel
theorem dX12_unfactor_34 : decode cX12_unfactor 34 = .ok (.aload_n 0, 1) := by decide +kernel
theorem dX12_unfactor_35 : decode cX12_unfactor 35 = .ok (.getfield 11, 3) := by decide +kernel
theorem dX12_unfactor_38 : decode cX12_unfactor 38 = .ok (.bipush 33, 2) := by decide +kernel
theorem dX12_unfactor_40 : decode cX12_unfactor 40 = .ok (.iload_n 2, 1) := by decide +kernel
theorem dX12_unfactor_41 : decode cX12_unfactor 41 = .ok (.iadd, 1) := by decide +kernel
theorem dX12_unfactor_42 : decode cX12_unfactor 42 = .ok (.aload_n 0, 1) := by decide +kernel
theorem dX12_unfactor_43 : decode cX12_unfactor 43 = .ok (.getfield 11, 3) := by decide +kernel
theorem dX12_unfactor_46 : decode cX12_unfactor 46 = .ok (.bipush 33, 2) := by decide +kernel
theorem dX12_unfactor_48 : decode cX12_unfactor 48 = .ok (.iload_n 2, 1) := by decide +kernel
theorem dX12_unfactor_49 : decode cX12_unfactor 49 = .ok (.iadd, 1) := by decide +kernel
theorem dX12_unfactor_50 : decode cX12_unfactor 50 = .ok (.iconst 1, 1) := by decide +kernel
theorem dX12_unfactor_51 : decode cX12_unfactor 51 = .ok (.iadd, 1) := by decide +kernel
theorem dX12_unfactor_52 : decode cX12_unfactor 52 = .ok (.iaload, 1) := by decide +kernel
theorem dX12_unfactor_53 : decode cX12_unfactor 53 = .ok (.iastore, 1) := by decide +kernel
theorem dX12_unfactor_54 : decode cX12_unfactor 54 = .ok (.aload_n 0, 1) := by decide +kernel
theorem dX12_unfactor_55 : decode cX12_unfactor 55 = .ok (.getfield 11, 3) := by decide +kernel
theorem dX12_unfactor_58 : decode cX12_unfactor 58 = .ok (.bipush 39, 2) := by decide +kernel
theorem dX12_unfactor_60 : decode cX12_unfactor 60 = .ok (.iload_n 2, 1) := by decide +kernel
theorem dX12_unfactor_61 : decode cX12_unfactor 61 = .ok (.iadd, 1) := by decide +kernel
theorem dX12_unfactor_62 : decode cX12_unfactor 62 = .ok (.aload_n 0, 1) := by decide +kernel
theorem dX12_unfactor_63 : decode cX12_unfactor 63 = .ok (.getfield 11, 3) := by decide +kernel
theorem dX12_unfactor_66 : decode cX12_unfactor 66 = .ok (.bipush 39, 2) := by decide +kernel
theorem dX12_unfactor_68 : decode cX12_unfactor 68 = .ok (.iload_n 2, 1) := by decide +kernel
theorem dX12_unfactor_69 : decode cX12_unfactor 69 = .ok (.iadd, 1) := by decide +kernel
theorem dX12_unfactor_70 : decode cX12_unfactor 70 = .ok (.iconst 1, 1) := by decide +kernel
theorem dX12_unfactor_71 : decode cX12_unfactor 71 = .ok (.iadd, 1) := by decide +kernel
theorem dX12_unfactor_72 : decode cX12_unfactor 72 = .ok (.iaload, 1) := by decide +kernel
theorem dX12_unfactor_73 : decode cX12_unfactor 73 = .ok (.iastore, 1) := by decide +kernel
theorem dX12_unfactor_74 : decode cX12_unfactor 74 = .ok (.aload_n 0, 1) := by decide +kernel
theorem dX12_unfactor_75 : decode cX12_unfactor 75 = .ok (.getfield 11, 3) := by decide +kernel
theorem dX12_unfactor_78 : decode cX12_unfactor 78 = .ok (.bipush 45, 2) := by decide +kernel
theorem dX12_unfactor_80 : decode cX12_unfactor 80 = .ok (.iload_n 2, 1) := by decide +kernel
theorem dX12_unfactor_81 : decode cX12_unfactor 81 = .ok (.iadd, 1) := by decide +kernel
theorem dX12_unfactor_82 : decode cX12_unfactor 82 = .ok (.aload_n 0, 1) := by decide +kernel
theorem dX12_unfactor_83 : decode cX12_unfactor 83 = .ok (.getfield 11, 3) := by decide +kernel
theorem dX12_unfactor_86 : decode cX12_unfactor 86 = .ok (.bipush 45, 2) := by decide +kernel
theorem dX12_unfactor_88 : decode cX12_unfactor 88 = .ok (.iload_n 2, 1) := by decide +kernel
theorem dX12_unfactor_89 : decode cX12_unfactor 89 = .ok (.iadd, 1) := by decide +kernel
theorem dX12_unfactor_90 : decode cX12_unfactor 90 = .ok (.iconst 1, 1) := by decide +kernel
theorem dX12_unfactor_91 : decode cX12_unfactor 91 = .ok (.iadd, 1) := by decide +kernel
theorem dX12_unfactor_92 : decode cX12_unfactor 92 = .ok (.iaload, 1) := by decide +kernel
theorem dX12_unfactor_93 : decode cX12_unfactor 93 = .ok (.iastore, 1) := by decide +kernel
theorem dX12_unfactor_94 : decode cX12_unfactor 94 = .ok (.iinc 2 1, 3) := by decide +kernel
theorem dX12_unfactor_97 : decode cX12_unfactor 97 = .ok (.goto (-74), 3) := by decide +kernel
theorem dX12_unfactor_100 : decode cX12_unfactor 100 = .ok (.aload_n 0, 1) := by decide +kernel
theorem dX12_unfactor_101 : decode cX12_unfactor 101 = .ok (.getfield 11, 3) := by decide +kernel
theorem dX12_unfactor_104 : decode cX12_unfactor 104 = .ok (.bipush 32, 2) := by decide +kernel
theorem dX12_unfactor_106 : decode cX12_unfactor 106 = .ok (.iaload, 1) := by decide +kernel
theorem dX12_unfactor_107 : decode cX12_unfactor 107 = .ok (.ireturn, 1) := by decide +kernel
theorem dX12_sizeOf_0 : decode cX12_sizeOf 0 = .ok (.iconst 1, 1) := by decide +kernel
theorem dX12_sizeOf_1 : decode cX12_sizeOf 1 = .ok (.aload_n 0, 1) := by decide +kernel
theorem dX12_sizeOf_2 : decode cX12_sizeOf 2 = .ok (.getfield 11, 3) := by decide +kernel
theorem dX12_sizeOf_5 : decode cX12_sizeOf 5 = .ok (.bipush 33, 2) := by decide +kernel
theorem dX12_sizeOf_7 : decode cX12_sizeOf 7 = .ok (.iload_n 1, 1) := by decide +kernel
theorem dX12_sizeOf_8 : decode cX12_sizeOf 8 = .ok (.iadd, 1) := by decide +kernel
theorem dX12_sizeOf_9 : decode cX12_sizeOf 9 = .ok (.iaload, 1) := by decide +kernel
theorem dX12_sizeOf_10 : decode cX12_sizeOf 10 = .ok (.iconst 2, 1) := by decide +kernel
theorem dX12_sizeOf_11 : decode cX12_sizeOf 11 = .ok (.irem, 1) := by decide +kernel
theorem dX12_sizeOf_12 : decode cX12_sizeOf 12 = .ok (.iadd, 1) := by decide +kernel
theorem dX12_sizeOf_13 : decode cX12_sizeOf 13 = .ok (.ireturn, 1) := by decide +kernel
theorem dX12_knownOf_0 : decode cX12_knownOf 0 = .ok (.aload_n 0, 1) := by decide +kernel
theorem dX12_knownOf_1 : decode cX12_knownOf 1 = .ok (.getfield 11, 3) := by decide +kernel
theorem dX12_knownOf_4 : decode cX12_knownOf 4 = .ok (.bipush 39, 2) := by decide +kernel
theorem dX12_knownOf_6 : decode cX12_knownOf 6 = .ok (.iload_n 1, 1) := by decide +kernel
theorem dX12_knownOf_7 : decode cX12_knownOf 7 = .ok (.iadd, 1) := by decide +kernel
theorem dX12_knownOf_8 : decode cX12_knownOf 8 = .ok (.iaload, 1) := by decide +kernel
theorem dX12_knownOf_9 : decode cX12_knownOf 9 = .ok (.istore_n 3, 1) := by decide +kernel
theorem dX12_knownOf_10 : decode cX12_knownOf 10 = .ok (.aload_n 0, 1) := by decide +kernel
theorem dX12_knownOf_11 : decode cX12_knownOf 11 = .ok (.getfield 11, 3) := by decide +kernel
theorem dX12_knownOf_14 : decode cX12_knownOf 14 = .ok (.bipush 45, 2) := by decide +kernel
theorem dX12_knownOf_16 : decode cX12_knownOf 16 = .ok (.iload_n 1, 1) := by decide +kernel
theorem dX12_knownOf_17 : decode cX12_knownOf 17 = .ok (.iadd, 1) := by decide +kernel
theorem dX12_knownOf_18 : decode cX12_knownOf 18 = .ok (.iaload, 1) := by decide +kernel
theorem dX12_knownOf_19 : decode cX12_knownOf 19 = .ok (.istore 4, 2) := by decide +kernel
theorem dX12_knownOf_21 : decode cX12_knownOf 21 = .ok (.iload_n 3, 1) := by decide +kernel
theorem dX12_knownOf_22 : decode cX12_knownOf 22 = .ok (.ifCond .ge 7, 3) := by decide +kernel
theorem dX12_knownOf_25 : decode cX12_knownOf 25 = .ok (.iconst 0, 1) := by decide +kernel
theorem dX12_knownOf_26 : decode cX12_knownOf 26 = .ok (.goto 12, 3) := by decide +kernel
theorem dX12_knownOf_29 : decode cX12_knownOf 29 = .ok (.iload_n 3, 1) := by decide +kernel
theorem dX12_knownOf_30 : decode cX12_knownOf 30 = .ok (.ifCond .ne 7, 3) := by decide +kernel
theorem dX12_knownOf_33 : decode cX12_knownOf 33 = .ok (.iconst 1, 1) := by decide +kernel
theorem dX12_knownOf_34 : decode cX12_knownOf 34 = .ok (.goto 4, 3) := by decide +kernel
theorem dX12_knownOf_37 : decode cX12_knownOf 37 = .ok (.iconst 2, 1) := by decide +kernel
theorem dX12_knownOf_38 : decode cX12_knownOf 38 = .ok (.istore 5, 2) := by decide +kernel
theorem dX12_knownOf_40 : decode cX12_knownOf 40 = .ok (.iload 5, 2) := by decide +kernel
theorem dX12_knownOf_42 : decode cX12_knownOf 42 = .ok (.iload_n 2, 1) := by decide +kernel
theorem dX12_knownOf_43 : decode cX12_knownOf 43 = .ok (.if_icmp .ne 7, 3) := by decide +kernel
theorem dX12_knownOf_46 : decode cX12_knownOf 46 = .ok (.iconst 1, 1) := by decide +kernel
theorem dX12_knownOf_47 : decode cX12_knownOf 47 = .ok (.goto 4, 3) := by decide +kernel
theorem dX12_knownOf_50 : decode cX12_knownOf 50 = .ok (.iconst 0, 1) := by decide +kernel
theorem dX12_knownOf_51 : decode cX12_knownOf 51 = .ok (.istore 6, 2) := by decide +kernel
theorem dX12_knownOf_53 : decode cX12_knownOf 53 = .ok (.aload_n 0, 1) := by decide +kernel
theorem dX12_knownOf_54 : decode cX12_knownOf 54 = .ok (.iload_n 1, 1) := by decide +kernel
theorem dX12_knownOf_55 : decode cX12_knownOf 55 = .ok (.invokevirtual 322, 3) := by decide +kernel
theorem dX12_knownOf_58 : decode cX12_knownOf 58 = .ok (.iconst 1, 1) := by decide +kernel
theorem dX12_knownOf_59 : decode cX12_knownOf 59 = .ok (.if_icmp .ne 6, 3) := by decide +kernel
theorem dX12_knownOf_62 : decode cX12_knownOf 62 = .ok (.iload 6, 2) := by decide +kernel
theorem dX12_knownOf_64 : decode cX12_knownOf 64 = .ok (.ireturn, 1) := by decide +kernel
theorem dX12_knownOf_65 : decode cX12_knownOf 65 = .ok (.iload 4, 2) := by decide +kernel
theorem dX12_knownOf_67 : decode cX12_knownOf 67 = .ok (.ifCond .ge 16, 3) := by decide +kernel
theorem dX12_knownOf_70 : decode cX12_knownOf 70 = .ok (.iload_n 2, 1) := by decide +kernel
theorem dX12_knownOf_71 : decode cX12_knownOf 71 = .ok (.iconst 1, 1) := by decide +kernel
theorem dX12_knownOf_72 : decode cX12_knownOf 72 = .ok (.if_icmp .ne 7, 3) := by decide +kernel
theorem dX12_knownOf_75 : decode cX12_knownOf 75 = .ok (.iconst 0, 1) := by decide +kernel
theorem dX12_knownOf_76 : decode cX12_knownOf 76 = .ok (.goto 32, 3) := by decide +kernel
theorem dX12_knownOf_79 : decode cX12_knownOf 79 = .ok (.iconst 1, 1) := by decide +kernel
theorem dX12_knownOf_80 : decode cX12_knownOf 80 = .ok (.goto 28, 3) := by decide +kernel
theorem dX12_knownOf_83 : decode cX12_knownOf 83 = .ok (.iload 4, 2) := by decide +kernel
theorem dX12_knownOf_85 : decode cX12_knownOf 85 = .ok (.ifCond .ne 19, 3) := by decide +kernel
theorem dX12_knownOf_88 : decode cX12_knownOf 88 = .ok (.iload 6, 2) := by decide +kernel
theorem dX12_knownOf_90 : decode cX12_knownOf 90 = .ok (.iload_n 2, 1) := by decide +kernel
theorem dX12_knownOf_91 : decode cX12_knownOf 91 = .ok (.iconst 1, 1) := by decide +kernel
theorem dX12_knownOf_92 : decode cX12_knownOf 92 = .ok (.if_icmp .ne 7, 3) := by decide +kernel
theorem dX12_knownOf_95 : decode cX12_knownOf 95 = .ok (.iconst 1, 1) := by decide +kernel
theorem dX12_knownOf_96 : decode cX12_knownOf 96 = .ok (.goto 4, 3) := by decide +kernel
theorem dX12_knownOf_99 : decode cX12_knownOf 99 = .ok (.iconst 0, 1) := by decide +kernel
theorem dX12_knownOf_100 : decode cX12_knownOf 100 = .ok (.iadd, 1) := by decide +kernel
theorem dX12_knownOf_101 : decode cX12_knownOf 101 = .ok (.goto 7, 3) := by decide +kernel
theorem dX12_knownOf_104 : decode cX12_knownOf 104 = .ok (.iconst 2, 1) := by decide +kernel
theorem dX12_knownOf_105 : decode cX12_knownOf 105 = .ok (.iload 6, 2) := by decide +kernel
theorem dX12_knownOf_107 : decode cX12_knownOf 107 = .ok (.imul, 1) := by decide +kernel
theorem dX12_knownOf_108 : decode cX12_knownOf 108 = .ok (.ireturn, 1) := by decide +kernel
theorem dX12_knownAll_0 : decode cX12_knownAll 0 = .ok (.iconst 0, 1) := by decide +kernel
theorem dX12_knownAll_1 : decode cX12_knownAll 1 = .ok (.istore_n 2, 1) := by decide +kernel
theorem dX12_knownAll_2 : decode cX12_knownAll 2 = .ok (.iconst 0, 1) := by decide +kernel
theorem dX12_knownAll_3 : decode cX12_knownAll 3 = .ok (.istore_n 3, 1) := by decide +kernel
theorem dX12_knownAll_4 : decode cX12_knownAll 4 = .ok (.iload_n 3, 1) := by decide +kernel
theorem dX12_knownAll_5 : decode cX12_knownAll 5 = .ok (.aload_n 0, 1) := by decide +kernel
theorem dX12_knownAll_6 : decode cX12_knownAll 6 = .ok (.getfield 11, 3) := by decide +kernel
theorem dX12_knownAll_9 : decode cX12_knownAll 9 = .ok (.bipush 32, 2) := by decide +kernel
theorem dX12_knownAll_11 : decode cX12_knownAll 11 = .ok (.iaload, 1) := by decide +kernel
theorem dX12_knownAll_12 : decode cX12_knownAll 12 = .ok (.if_icmp .ge 31, 3) := by decide +kernel
theorem dX12_knownAll_15 : decode cX12_knownAll 15 = .ok (.iload_n 2, 1) := by decide +kernel
theorem dX12_knownAll_16 : decode cX12_knownAll 16 = .ok (.iload_n 1, 1) := by decide +kernel
theorem dX12_knownAll_17 : decode cX12_knownAll 17 = .ok (.iconst 3, 1) := by decide +kernel
theorem dX12_knownAll_18 : decode cX12_knownAll 18 = .ok (.if_icmp .ne 11, 3) := by decide +kernel
theorem dX12_knownAll_21 : decode cX12_knownAll 21 = .ok (.aload_n 0, 1) := by decide +kernel
theorem dX12_knownAll_22 : decode cX12_knownAll 22 = .ok (.iload_n 3, 1) := by decide +kernel
theorem dX12_knownAll_23 : decode cX12_knownAll 23 = .ok (.invokevirtual 322, 3) := by decide +kernel
theorem dX12_knownAll_26 : decode cX12_knownAll 26 = .ok (.goto 9, 3) := by decide +kernel
theorem dX12_knownAll_29 : decode cX12_knownAll 29 = .ok (.aload_n 0, 1) := by decide +kernel
theorem dX12_knownAll_30 : decode cX12_knownAll 30 = .ok (.iload_n 3, 1) := by decide +kernel
theorem dX12_knownAll_31 : decode cX12_knownAll 31 = .ok (.iload_n 1, 1) := by decide +kernel
theorem dX12_knownAll_32 : decode cX12_knownAll 32 = .ok (.invokevirtual 325, 3) := by decide +kernel
theorem dX12_knownAll_35 : decode cX12_knownAll 35 = .ok (.iadd, 1) := by decide +kernel
theorem dX12_knownAll_36 : decode cX12_knownAll 36 = .ok (.istore_n 2, 1) := by decide +kernel
theorem dX12_knownAll_37 : decode cX12_knownAll 37 = .ok (.iinc 3 1, 3) := by decide +kernel
theorem dX12_knownAll_40 : decode cX12_knownAll 40 = .ok (.goto (-36), 3) := by decide +kernel
theorem dX12_knownAll_43 : decode cX12_knownAll 43 = .ok (.iload_n 2, 1) := by decide +kernel
theorem dX12_knownAll_44 : decode cX12_knownAll 44 = .ok (.ireturn, 1) := by decide +kernel
theorem dX12_known_0 : decode cX12_known 0 = .ok (.iload_n 1, 1) := by decide +kernel
theorem dX12_known_1 : decode cX12_known 1 = .ok (.i2l, 1) := by decide +kernel
theorem dX12_known_2 : decode cX12_known 2 = .ok (.lconst 0, 1) := by decide +kernel
theorem dX12_known_3 : decode cX12_known 3 = .ok (.ldc2_w 105, 3) := by decide +kernel
theorem dX12_known_6 : decode cX12_known 6 = .ok (.invokestatic 83, 3) := by decide +kernel
theorem dX12_known_9 : decode cX12_known 9 = .ok (.ifCond .eq 11, 3) := by decide +kernel
theorem dX12_known_12 : decode cX12_known 12 = .ok (.aload_n 0, 1) := by decide +kernel
theorem dX12_known_13 : decode cX12_known 13 = .ok (.iload_n 1, 1) := by decide +kernel
theorem dX12_known_14 : decode cX12_known 14 = .ok (.invokevirtual 328, 3) := by decide +kernel
theorem dX12_known_17 : decode cX12_known 17 = .ok (.goto 5, 3) := by decide +kernel
theorem dX12_known_20 : decode cX12_known 20 = .ok (.bipush (-2), 2) := by decide +kernel
theorem dX12_known_22 : decode cX12_known 22 = .ok (.ireturn, 1) := by decide +kernel
theorem dX12_isDivided_0 : decode cX12_isDivided 0 = .ok (.aload_n 0, 1) := by decide +kernel
theorem dX12_isDivided_1 : decode cX12_isDivided 1 = .ok (.iload_n 1, 1) := by decide +kernel
theorem dX12_isDivided_2 : decode cX12_isDivided 2 = .ok (.invokevirtual 322, 3) := by decide +kernel
theorem dX12_isDivided_5 : decode cX12_isDivided 5 = .ok (.istore_n 2, 1) := by decide +kernel
theorem dX12_isDivided_6 : decode cX12_isDivided 6 = .ok (.aload_n 0, 1) := by decide +kernel
theorem dX12_isDivided_7 : decode cX12_isDivided 7 = .ok (.getfield 18, 3) := by decide +kernel
theorem dX12_isDivided_10 : decode cX12_isDivided 10 = .ok (.invokestatic 73, 3) := by decide +kernel
theorem dX12_isDivided_13 : decode cX12_isDivided 13 = .ok (.istore_n 3, 1) := by decide +kernel
theorem dX12_isDivided_14 : decode cX12_isDivided 14 = .ok (.iconst 0, 1) := by decide +kernel
theorem dX12_isDivided_15 : decode cX12_isDivided 15 = .ok (.istore 4, 2) := by decide +kernel
theorem dX12_isDivided_17 : decode cX12_isDivided 17 = .ok (.iload 4, 2) := by decide +kernel
theorem dX12_isDivided_19 : decode cX12_isDivided 19 = .ok (.bipush 7, 2) := by decide +kernel
theorem dX12_isDivided_21 : decode cX12_isDivided 21 = .ok (.if_icmp .ge 23, 3) := by decide +kernel
theorem dX12_isDivided_24 : decode cX12_isDivided 24 = .ok (.aload_n 0, 1) := by decide +kernel
theorem dX12_isDivided_25 : decode cX12_isDivided 25 = .ok (.getfield 25, 3) := by decide +kernel
theorem dX12_isDivided_28 : decode cX12_isDivided 28 = .ok (.iload 4, 2) := by decide +kernel
theorem dX12_isDivided_30 : decode cX12_isDivided 30 = .ok (.aload_n 0, 1) := by decide +kernel
theorem dX12_isDivided_31 : decode cX12_isDivided 31 = .ok (.getfield 18, 3) := by decide +kernel
theorem dX12_isDivided_34 : decode cX12_isDivided 34 = .ok (.iload 4, 2) := by decide +kernel
theorem dX12_isDivided_36 : decode cX12_isDivided 36 = .ok (.laload, 1) := by decide +kernel
theorem dX12_isDivided_37 : decode cX12_isDivided 37 = .ok (.lastore, 1) := by decide +kernel
theorem dX12_isDivided_38 : decode cX12_isDivided 38 = .ok (.iinc 4 1, 3) := by decide +kernel
theorem dX12_isDivided_41 : decode cX12_isDivided 41 = .ok (.goto (-24), 3) := by decide +kernel
theorem dX12_isDivided_44 : decode cX12_isDivided 44 = .ok (.iload_n 3, 1) := by decide +kernel
theorem dX12_isDivided_45 : decode cX12_isDivided 45 = .ok (.istore 4, 2) := by decide +kernel
theorem dX12_isDivided_47 : decode cX12_isDivided 47 = .ok (.iload 4, 2) := by decide +kernel
theorem dX12_isDivided_49 : decode cX12_isDivided 49 = .ok (.iload_n 2, 1) := by decide +kernel
theorem dX12_isDivided_50 : decode cX12_isDivided 50 = .ok (.if_icmp .lt 74, 3) := by decide +kernel
theorem dX12_isDivided_53 : decode cX12_isDivided 53 = .ok (.aload_n 0, 1) := by decide +kernel
theorem dX12_isDivided_54 : decode cX12_isDivided 54 = .ok (.getfield 25, 3) := by decide +kernel
theorem dX12_isDivided_57 : decode cX12_isDivided 57 = .ok (.iload 4, 2) := by decide +kernel
theorem dX12_isDivided_59 : decode cX12_isDivided 59 = .ok (.iconst 1, 1) := by decide +kernel
theorem dX12_isDivided_60 : decode cX12_isDivided 60 = .ok (.isub, 1) := by decide +kernel
theorem dX12_isDivided_61 : decode cX12_isDivided 61 = .ok (.dup2, 1) := by decide +kernel
theorem dX12_isDivided_62 : decode cX12_isDivided 62 = .ok (.laload, 1) := by decide +kernel
theorem dX12_isDivided_63 : decode cX12_isDivided 63 = .ok (.aload_n 0, 1) := by decide +kernel
theorem dX12_isDivided_64 : decode cX12_isDivided 64 = .ok (.getfield 11, 3) := by decide +kernel
theorem dX12_isDivided_67 : decode cX12_isDivided 67 = .ok (.bipush 39, 2) := by decide +kernel
theorem dX12_isDivided_69 : decode cX12_isDivided 69 = .ok (.iload_n 1, 1) := by decide +kernel
theorem dX12_isDivided_70 : decode cX12_isDivided 70 = .ok (.iadd, 1) := by decide +kernel
theorem dX12_isDivided_71 : decode cX12_isDivided 71 = .ok (.iaload, 1) := by decide +kernel
theorem dX12_isDivided_72 : decode cX12_isDivided 72 = .ok (.i2l, 1) := by decide +kernel
theorem dX12_isDivided_73 : decode cX12_isDivided 73 = .ok (.aload_n 0, 1) := by decide +kernel
theorem dX12_isDivided_74 : decode cX12_isDivided 74 = .ok (.getfield 25, 3) := by decide +kernel
theorem dX12_isDivided_77 : decode cX12_isDivided 77 = .ok (.iload 4, 2) := by decide +kernel
theorem dX12_isDivided_79 : decode cX12_isDivided 79 = .ok (.laload, 1) := by decide +kernel
theorem dX12_isDivided_80 : decode cX12_isDivided 80 = .ok (.lmul, 1) := by decide +kernel
theorem dX12_isDivided_81 : decode cX12_isDivided 81 = .ok (.lsub, 1) := by decide +kernel
theorem dX12_isDivided_82 : decode cX12_isDivided 82 = .ok (.lastore, 1) := by decide +kernel
theorem dX12_isDivided_83 : decode cX12_isDivided 83 = .ok (.iload_n 2, 1) := by decide +kernel
theorem dX12_isDivided_84 : decode cX12_isDivided 84 = .ok (.iconst 2, 1) := by decide +kernel
theorem dX12_isDivided_85 : decode cX12_isDivided 85 = .ok (.if_icmp .ne 33, 3) := by decide +kernel
theorem dX12_isDivided_88 : decode cX12_isDivided 88 = .ok (.aload_n 0, 1) := by decide +kernel
theorem dX12_isDivided_89 : decode cX12_isDivided 89 = .ok (.getfield 25, 3) := by decide +kernel
theorem dX12_isDivided_92 : decode cX12_isDivided 92 = .ok (.iload 4, 2) := by decide +kernel
theorem dX12_isDivided_94 : decode cX12_isDivided 94 = .ok (.iconst 2, 1) := by decide +kernel
theorem dX12_isDivided_95 : decode cX12_isDivided 95 = .ok (.isub, 1) := by decide +kernel
theorem dX12_isDivided_96 : decode cX12_isDivided 96 = .ok (.dup2, 1) := by decide +kernel
theorem dX12_isDivided_97 : decode cX12_isDivided 97 = .ok (.laload, 1) := by decide +kernel
theorem dX12_isDivided_98 : decode cX12_isDivided 98 = .ok (.aload_n 0, 1) := by decide +kernel
theorem dX12_isDivided_99 : decode cX12_isDivided 99 = .ok (.getfield 11, 3) := by decide +kernel
theorem dX12_isDivided_102 : decode cX12_isDivided 102 = .ok (.bipush 45, 2) := by decide +kernel
theorem dX12_isDivided_104 : decode cX12_isDivided 104 = .ok (.iload_n 1, 1) := by decide +kernel
theorem dX12_isDivided_105 : decode cX12_isDivided 105 = .ok (.iadd, 1) := by decide +kernel
theorem dX12_isDivided_106 : decode cX12_isDivided 106 = .ok (.iaload, 1) := by decide +kernel
theorem dX12_isDivided_107 : decode cX12_isDivided 107 = .ok (.i2l, 1) := by decide +kernel
theorem dX12_isDivided_108 : decode cX12_isDivided 108 = .ok (.aload_n 0, 1) := by decide +kernel
theorem dX12_isDivided_109 : decode cX12_isDivided 109 = .ok (.getfield 25, 3) := by decide +kernel
theorem dX12_isDivided_112 : decode cX12_isDivided 112 = .ok (.iload 4, 2) := by decide +kernel
theorem dX12_isDivided_114 : decode cX12_isDivided 114 = .ok (.laload, 1) := by decide +kernel
theorem dX12_isDivided_115 : decode cX12_isDivided 115 = .ok (.lmul, 1) := by decide +kernel
theorem dX12_isDivided_116 : decode cX12_isDivided 116 = .ok (.lsub, 1) := by decide +kernel
theorem dX12_isDivided_117 : decode cX12_isDivided 117 = .ok (.lastore, 1) := by decide +kernel
theorem dX12_isDivided_118 : decode cX12_isDivided 118 = .ok (.iinc 4 (-1), 3) := by decide +kernel
theorem dX12_isDivided_121 : decode cX12_isDivided 121 = .ok (.goto (-74), 3) := by decide +kernel
theorem dX12_isDivided_124 : decode cX12_isDivided 124 = .ok (.iload_n 3, 1) := by decide +kernel
theorem dX12_isDivided_125 : decode cX12_isDivided 125 = .ok (.iload_n 2, 1) := by decide +kernel
theorem dX12_isDivided_126 : decode cX12_isDivided 126 = .ok (.if_icmp .lt 34, 3) := by decide +kernel
theorem dX12_isDivided_129 : decode cX12_isDivided 129 = .ok (.aload_n 0, 1) := by decide +kernel
theorem dX12_isDivided_130 : decode cX12_isDivided 130 = .ok (.getfield 25, 3) := by decide +kernel
theorem dX12_isDivided_133 : decode cX12_isDivided 133 = .ok (.iconst 0, 1) := by decide +kernel
theorem dX12_isDivided_134 : decode cX12_isDivided 134 = .ok (.laload, 1) := by decide +kernel
theorem dX12_isDivided_135 : decode cX12_isDivided 135 = .ok (.lconst 0, 1) := by decide +kernel
theorem dX12_isDivided_136 : decode cX12_isDivided 136 = .ok (.lcmp, 1) := by decide +kernel
theorem dX12_isDivided_137 : decode cX12_isDivided 137 = .ok (.ifCond .ne 23, 3) := by decide +kernel
theorem dX12_isDivided_140 : decode cX12_isDivided 140 = .ok (.iload_n 2, 1) := by decide +kernel
theorem dX12_isDivided_141 : decode cX12_isDivided 141 = .ok (.iconst 1, 1) := by decide +kernel
theorem dX12_isDivided_142 : decode cX12_isDivided 142 = .ok (.if_icmp .eq 14, 3) := by decide +kernel
theorem dX12_isDivided_145 : decode cX12_isDivided 145 = .ok (.aload_n 0, 1) := by decide +kernel
theorem dX12_isDivided_146 : decode cX12_isDivided 146 = .ok (.getfield 25, 3) := by decide +kernel
theorem dX12_isDivided_149 : decode cX12_isDivided 149 = .ok (.iconst 1, 1) := by decide +kernel
theorem dX12_isDivided_150 : decode cX12_isDivided 150 = .ok (.laload, 1) := by decide +kernel
theorem dX12_isDivided_151 : decode cX12_isDivided 151 = .ok (.lconst 0, 1) := by decide +kernel
theorem dX12_isDivided_152 : decode cX12_isDivided 152 = .ok (.lcmp, 1) := by decide +kernel
theorem dX12_isDivided_153 : decode cX12_isDivided 153 = .ok (.ifCond .ne 7, 3) := by decide +kernel
theorem dX12_isDivided_156 : decode cX12_isDivided 156 = .ok (.iconst 1, 1) := by decide +kernel
theorem dX12_isDivided_157 : decode cX12_isDivided 157 = .ok (.goto 4, 3) := by decide +kernel
theorem dX12_isDivided_160 : decode cX12_isDivided 160 = .ok (.iconst 0, 1) := by decide +kernel
theorem dX12_isDivided_161 : decode cX12_isDivided 161 = .ok (.istore 4, 2) := by decide +kernel
theorem dX12_isDivided_163 : decode cX12_isDivided 163 = .ok (.iconst 0, 1) := by decide +kernel
theorem dX12_isDivided_164 : decode cX12_isDivided 164 = .ok (.istore 5, 2) := by decide +kernel
theorem dX12_isDivided_166 : decode cX12_isDivided 166 = .ok (.iload 5, 2) := by decide +kernel
theorem dX12_isDivided_168 : decode cX12_isDivided 168 = .ok (.bipush 7, 2) := by decide +kernel
theorem dX12_isDivided_170 : decode cX12_isDivided 170 = .ok (.if_icmp .ge 43, 3) := by decide +kernel
theorem dX12_isDivided_173 : decode cX12_isDivided 173 = .ok (.iload 4, 2) := by decide +kernel
theorem dX12_isDivided_175 : decode cX12_isDivided 175 = .ok (.ifCond .eq 38, 3) := by decide +kernel
theorem dX12_isDivided_178 : decode cX12_isDivided 178 = .ok (.aload_n 0, 1) := by decide +kernel
theorem dX12_isDivided_179 : decode cX12_isDivided 179 = .ok (.getfield 18, 3) := by decide +kernel
theorem dX12_isDivided_182 : decode cX12_isDivided 182 = .ok (.iload 5, 2) := by decide +kernel
theorem dX12_isDivided_184 : decode cX12_isDivided 184 = .ok (.iload 5, 2) := by decide +kernel
theorem dX12_isDivided_186 : decode cX12_isDivided 186 = .ok (.iload_n 2, 1) := by decide +kernel
theorem dX12_isDivided_187 : decode cX12_isDivided 187 = .ok (.iadd, 1) := by decide +kernel
theorem dX12_isDivided_188 : decode cX12_isDivided 188 = .ok (.bipush 7, 2) := by decide +kernel
theorem dX12_isDivided_190 : decode cX12_isDivided 190 = .ok (.if_icmp .ge 15, 3) := by decide +kernel
theorem dX12_isDivided_193 : decode cX12_isDivided 193 = .ok (.aload_n 0, 1) := by decide +kernel
theorem dX12_isDivided_194 : decode cX12_isDivided 194 = .ok (.getfield 25, 3) := by decide +kernel
theorem dX12_isDivided_197 : decode cX12_isDivided 197 = .ok (.iload 5, 2) := by decide +kernel
theorem dX12_isDivided_199 : decode cX12_isDivided 199 = .ok (.iload_n 2, 1) := by decide +kernel
theorem dX12_isDivided_200 : decode cX12_isDivided 200 = .ok (.iadd, 1) := by decide +kernel
theorem dX12_isDivided_201 : decode cX12_isDivided 201 = .ok (.laload, 1) := by decide +kernel
theorem dX12_isDivided_202 : decode cX12_isDivided 202 = .ok (.goto 4, 3) := by decide +kernel
theorem dX12_isDivided_205 : decode cX12_isDivided 205 = .ok (.lconst 0, 1) := by decide +kernel
theorem dX12_isDivided_206 : decode cX12_isDivided 206 = .ok (.lastore, 1) := by decide +kernel
theorem dX12_isDivided_207 : decode cX12_isDivided 207 = .ok (.iinc 5 1, 3) := by decide +kernel
theorem dX12_isDivided_210 : decode cX12_isDivided 210 = .ok (.goto (-44), 3) := by decide +kernel
theorem dX12_isDivided_213 : decode cX12_isDivided 213 = .ok (.iload 4, 2) := by decide +kernel
theorem dX12_isDivided_215 : decode cX12_isDivided 215 = .ok (.ireturn, 1) := by decide +kernel
theorem dX12_factored_0 : decode cX12_factored 0 = .ok (.aload_n 0, 1) := by decide +kernel
theorem dX12_factored_1 : decode cX12_factored 1 = .ok (.iload_n 1, 1) := by decide +kernel
theorem dX12_factored_2 : decode cX12_factored 2 = .ok (.invokevirtual 319, 3) := by decide +kernel
theorem dX12_factored_5 : decode cX12_factored 5 = .ok (.ifCond .eq 15, 3) := by decide +kernel
theorem dX12_factored_8 : decode cX12_factored 8 = .ok (.iload_n 2, 1) := by decide +kernel
theorem dX12_factored_9 : decode cX12_factored 9 = .ok (.i2l, 1) := by decide +kernel
theorem dX12_factored_10 : decode cX12_factored 10 = .ok (.lconst 0, 1) := by decide +kernel
theorem dX12_factored_11 : decode cX12_factored 11 = .ok (.ldc2_w 331, 3) := by decide +kernel
theorem dX12_factored_14 : decode cX12_factored 14 = .ok (.invokestatic 83, 3) := by decide +kernel
theorem dX12_factored_17 : decode cX12_factored 17 = .ok (.ifCond .ne 5, 3) := by decide +kernel
theorem dX12_factored_20 : decode cX12_factored 20 = .ok (.iconst (-1), 1) := by decide +kernel
theorem dX12_factored_21 : decode cX12_factored 21 = .ok (.ireturn, 1) := by decide +kernel
theorem dX12_factored_22 : decode cX12_factored 22 = .ok (.iconst 0, 1) := by decide +kernel
theorem dX12_factored_23 : decode cX12_factored 23 = .ok (.istore_n 3, 1) := by decide +kernel
theorem dX12_factored_24 : decode cX12_factored 24 = .ok (.aload_n 0, 1) := by decide +kernel
theorem dX12_factored_25 : decode cX12_factored 25 = .ok (.iconst 1, 1) := by decide +kernel
theorem dX12_factored_26 : decode cX12_factored 26 = .ok (.aload_n 0, 1) := by decide +kernel
theorem dX12_factored_27 : decode cX12_factored 27 = .ok (.getfield 11, 3) := by decide +kernel
theorem dX12_factored_30 : decode cX12_factored 30 = .ok (.bipush 14, 2) := by decide +kernel
theorem dX12_factored_32 : decode cX12_factored 32 = .ok (.iaload, 1) := by decide +kernel
theorem dX12_factored_33 : decode cX12_factored 33 = .ok (.invokevirtual 97, 3) := by decide +kernel
theorem dX12_factored_36 : decode cX12_factored 36 = .ok (.iload_n 2, 1) := by decide +kernel
theorem dX12_factored_37 : decode cX12_factored 37 = .ok (.bipush 7, 2) := by decide +kernel
theorem dX12_factored_39 : decode cX12_factored 39 = .ok (.if_icmp .ne 17, 3) := by decide +kernel
theorem dX12_factored_42 : decode cX12_factored 42 = .ok (.aload_n 0, 1) := by decide +kernel
theorem dX12_factored_43 : decode cX12_factored 43 = .ok (.iload_n 1, 1) := by decide +kernel
theorem dX12_factored_44 : decode cX12_factored 44 = .ok (.invokevirtual 333, 3) := by decide +kernel
theorem dX12_factored_47 : decode cX12_factored 47 = .ok (.ifCond .eq 9, 3) := by decide +kernel
theorem dX12_factored_50 : decode cX12_factored 50 = .ok (.iinc 3 1, 3) := by decide +kernel
theorem dX12_factored_53 : decode cX12_factored 53 = .ok (.goto (-17), 3) := by decide +kernel
theorem dX12_factored_56 : decode cX12_factored 56 = .ok (.iload_n 2, 1) := by decide +kernel
theorem dX12_factored_57 : decode cX12_factored 57 = .ok (.tableswitch 104 0 7 #[47, 57, 70, 96, 104, 104, 104, 102], 47) := by decide +kernel
theorem dX12_factored_104 : decode cX12_factored 104 = .ok (.aload_n 0, 1) := by decide +kernel
theorem dX12_factored_105 : decode cX12_factored 105 = .ok (.getfield 11, 3) := by decide +kernel
theorem dX12_factored_108 : decode cX12_factored 108 = .ok (.bipush 33, 2) := by decide +kernel
theorem dX12_factored_110 : decode cX12_factored 110 = .ok (.iload_n 1, 1) := by decide +kernel
theorem dX12_factored_111 : decode cX12_factored 111 = .ok (.iadd, 1) := by decide +kernel
theorem dX12_factored_112 : decode cX12_factored 112 = .ok (.iaload, 1) := by decide +kernel
theorem dX12_factored_113 : decode cX12_factored 113 = .ok (.ireturn, 1) := by decide +kernel
theorem dX12_factored_114 : decode cX12_factored 114 = .ok (.aload_n 0, 1) := by decide +kernel
theorem dX12_factored_115 : decode cX12_factored 115 = .ok (.getfield 11, 3) := by decide +kernel
theorem dX12_factored_118 : decode cX12_factored 118 = .ok (.bipush 39, 2) := by decide +kernel
theorem dX12_factored_120 : decode cX12_factored 120 = .ok (.iload_n 1, 1) := by decide +kernel
theorem dX12_factored_121 : decode cX12_factored 121 = .ok (.iadd, 1) := by decide +kernel
theorem dX12_factored_122 : decode cX12_factored 122 = .ok (.iaload, 1) := by decide +kernel
theorem dX12_factored_123 : decode cX12_factored 123 = .ok (.bipush 100, 2) := by decide +kernel
theorem dX12_factored_125 : decode cX12_factored 125 = .ok (.iadd, 1) := by decide +kernel
theorem dX12_factored_126 : decode cX12_factored 126 = .ok (.ireturn, 1) := by decide +kernel
theorem dX12_factored_127 : decode cX12_factored 127 = .ok (.aload_n 0, 1) := by decide +kernel
theorem dX12_factored_128 : decode cX12_factored 128 = .ok (.iload_n 1, 1) := by decide +kernel
theorem dX12_factored_129 : decode cX12_factored 129 = .ok (.invokevirtual 322, 3) := by decide +kernel
theorem dX12_factored_132 : decode cX12_factored 132 = .ok (.iconst 2, 1) := by decide +kernel
theorem dX12_factored_133 : decode cX12_factored 133 = .ok (.if_icmp .ne 18, 3) := by decide +kernel
theorem dX12_factored_136 : decode cX12_factored 136 = .ok (.aload_n 0, 1) := by decide +kernel
theorem dX12_factored_137 : decode cX12_factored 137 = .ok (.getfield 11, 3) := by decide +kernel
theorem dX12_factored_140 : decode cX12_factored 140 = .ok (.bipush 45, 2) := by decide +kernel
theorem dX12_factored_142 : decode cX12_factored 142 = .ok (.iload_n 1, 1) := by decide +kernel
theorem dX12_factored_143 : decode cX12_factored 143 = .ok (.iadd, 1) := by decide +kernel
theorem dX12_factored_144 : decode cX12_factored 144 = .ok (.iaload, 1) := by decide +kernel
theorem dX12_factored_145 : decode cX12_factored 145 = .ok (.bipush 100, 2) := by decide +kernel
theorem dX12_factored_147 : decode cX12_factored 147 = .ok (.iadd, 1) := by decide +kernel
theorem dX12_factored_148 : decode cX12_factored 148 = .ok (.goto 4, 3) := by decide +kernel
theorem dX12_factored_151 : decode cX12_factored 151 = .ok (.iconst (-1), 1) := by decide +kernel
theorem dX12_factored_152 : decode cX12_factored 152 = .ok (.ireturn, 1) := by decide +kernel
theorem dX12_factored_153 : decode cX12_factored 153 = .ok (.aload_n 0, 1) := by decide +kernel
theorem dX12_factored_154 : decode cX12_factored 154 = .ok (.iload_n 1, 1) := by decide +kernel
theorem dX12_factored_155 : decode cX12_factored 155 = .ok (.invokevirtual 322, 3) := by decide +kernel
theorem dX12_factored_158 : decode cX12_factored 158 = .ok (.ireturn, 1) := by decide +kernel
theorem dX12_factored_159 : decode cX12_factored 159 = .ok (.iload_n 3, 1) := by decide +kernel
theorem dX12_factored_160 : decode cX12_factored 160 = .ok (.ireturn, 1) := by decide +kernel
theorem dX12_factored_161 : decode cX12_factored 161 = .ok (.aload_n 0, 1) := by decide +kernel
theorem dX12_factored_162 : decode cX12_factored 162 = .ok (.iload_n 1, 1) := by decide +kernel
theorem dX12_factored_163 : decode cX12_factored 163 = .ok (.iload_n 2, 1) := by decide +kernel
theorem dX12_factored_164 : decode cX12_factored 164 = .ok (.iconst 4, 1) := by decide +kernel
theorem dX12_factored_165 : decode cX12_factored 165 = .ok (.isub, 1) := by decide +kernel
theorem dX12_factored_166 : decode cX12_factored 166 = .ok (.invokevirtual 325, 3) := by decide +kernel
theorem dX12_factored_169 : decode cX12_factored 169 = .ok (.ireturn, 1) := by decide +kernel
theorem dX12_multiply_0 : decode cX12_multiply 0 = .ok (.aload_n 0, 1) := by decide +kernel
theorem dX12_multiply_1 : decode cX12_multiply 1 = .ok (.iconst 3, 1) := by decide +kernel
theorem dX12_multiply_2 : decode cX12_multiply 2 = .ok (.invokevirtual 328, 3) := by decide +kernel
theorem dX12_multiply_5 : decode cX12_multiply 5 = .ok (.istore_n 1, 1) := by decide +kernel
theorem dX12_multiply_6 : decode cX12_multiply 6 = .ok (.iload_n 1, 1) := by decide +kernel
theorem dX12_multiply_7 : decode cX12_multiply 7 = .ok (.bipush 6, 2) := by decide +kernel
theorem dX12_multiply_9 : decode cX12_multiply 9 = .ok (.if_icmp .le 6, 3) := by decide +kernel
theorem dX12_multiply_12 : decode cX12_multiply 12 = .ok (.bipush (-3), 2) := by decide +kernel
theorem dX12_multiply_14 : decode cX12_multiply 14 = .ok (.ireturn, 1) := by decide +kernel
theorem dX12_multiply_15 : decode cX12_multiply 15 = .ok (.iconst 0, 1) := by decide +kernel
theorem dX12_multiply_16 : decode cX12_multiply 16 = .ok (.istore_n 2, 1) := by decide +kernel
theorem dX12_multiply_17 : decode cX12_multiply 17 = .ok (.iload_n 2, 1) := by decide +kernel
theorem dX12_multiply_18 : decode cX12_multiply 18 = .ok (.bipush 7, 2) := by decide +kernel
theorem dX12_multiply_20 : decode cX12_multiply 20 = .ok (.if_icmp .ge 24, 3) := by decide +kernel
theorem dX12_multiply_23 : decode cX12_multiply 23 = .ok (.aload_n 0, 1) := by decide +kernel
theorem dX12_multiply_24 : decode cX12_multiply 24 = .ok (.getfield 25, 3) := by decide +kernel
theorem dX12_multiply_27 : decode cX12_multiply 27 = .ok (.iload_n 2, 1) := by decide +kernel
theorem dX12_multiply_28 : decode cX12_multiply 28 = .ok (.iload_n 2, 1) := by decide +kernel
theorem dX12_multiply_29 : decode cX12_multiply 29 = .ok (.ifCond .ne 7, 3) := by decide +kernel
theorem dX12_multiply_32 : decode cX12_multiply 32 = .ok (.lconst 1, 1) := by decide +kernel
theorem dX12_multiply_33 : decode cX12_multiply 33 = .ok (.goto 4, 3) := by decide +kernel
theorem dX12_multiply_36 : decode cX12_multiply 36 = .ok (.lconst 0, 1) := by decide +kernel
theorem dX12_multiply_37 : decode cX12_multiply 37 = .ok (.lastore, 1) := by decide +kernel
theorem dX12_multiply_38 : decode cX12_multiply 38 = .ok (.iinc 2 1, 3) := by decide +kernel
theorem dX12_multiply_41 : decode cX12_multiply 41 = .ok (.goto (-24), 3) := by decide +kernel
theorem dX12_multiply_44 : decode cX12_multiply 44 = .ok (.iconst 0, 1) := by decide +kernel
theorem dX12_multiply_45 : decode cX12_multiply 45 = .ok (.istore_n 2, 1) := by decide +kernel
theorem dX12_multiply_46 : decode cX12_multiply 46 = .ok (.iload_n 2, 1) := by decide +kernel
theorem dX12_multiply_47 : decode cX12_multiply 47 = .ok (.aload_n 0, 1) := by decide +kernel
theorem dX12_multiply_48 : decode cX12_multiply 48 = .ok (.getfield 11, 3) := by decide +kernel
theorem dX12_multiply_51 : decode cX12_multiply 51 = .ok (.bipush 32, 2) := by decide +kernel
theorem dX12_multiply_53 : decode cX12_multiply 53 = .ok (.iaload, 1) := by decide +kernel
theorem dX12_multiply_54 : decode cX12_multiply 54 = .ok (.if_icmp .ge 131, 3) := by decide +kernel
theorem dX12_multiply_57 : decode cX12_multiply 57 = .ok (.bipush 6, 2) := by decide +kernel
theorem dX12_multiply_59 : decode cX12_multiply 59 = .ok (.istore_n 3, 1) := by decide +kernel
theorem dX12_multiply_60 : decode cX12_multiply 60 = .ok (.iload_n 3, 1) := by decide +kernel
theorem dX12_multiply_61 : decode cX12_multiply 61 = .ok (.ifCond .lt 118, 3) := by decide +kernel
theorem dX12_multiply_64 : decode cX12_multiply 64 = .ok (.iload_n 3, 1) := by decide +kernel
theorem dX12_multiply_65 : decode cX12_multiply 65 = .ok (.ifCond .le 14, 3) := by decide +kernel
theorem dX12_multiply_68 : decode cX12_multiply 68 = .ok (.aload_n 0, 1) := by decide +kernel
theorem dX12_multiply_69 : decode cX12_multiply 69 = .ok (.getfield 25, 3) := by decide +kernel
theorem dX12_multiply_72 : decode cX12_multiply 72 = .ok (.iload_n 3, 1) := by decide +kernel
theorem dX12_multiply_73 : decode cX12_multiply 73 = .ok (.iconst 1, 1) := by decide +kernel
theorem dX12_multiply_74 : decode cX12_multiply 74 = .ok (.isub, 1) := by decide +kernel
theorem dX12_multiply_75 : decode cX12_multiply 75 = .ok (.laload, 1) := by decide +kernel
theorem dX12_multiply_76 : decode cX12_multiply 76 = .ok (.goto 4, 3) := by decide +kernel
theorem dX12_multiply_79 : decode cX12_multiply 79 = .ok (.lconst 0, 1) := by decide +kernel
theorem dX12_multiply_80 : decode cX12_multiply 80 = .ok (.lstore 4, 2) := by decide +kernel
theorem dX12_multiply_82 : decode cX12_multiply 82 = .ok (.iload_n 3, 1) := by decide +kernel
theorem dX12_multiply_83 : decode cX12_multiply 83 = .ok (.iconst 1, 1) := by decide +kernel
theorem dX12_multiply_84 : decode cX12_multiply 84 = .ok (.if_icmp .le 14, 3) := by decide +kernel
theorem dX12_multiply_87 : decode cX12_multiply 87 = .ok (.aload_n 0, 1) := by decide +kernel
theorem dX12_multiply_88 : decode cX12_multiply 88 = .ok (.getfield 25, 3) := by decide +kernel
theorem dX12_multiply_91 : decode cX12_multiply 91 = .ok (.iload_n 3, 1) := by decide +kernel
theorem dX12_multiply_92 : decode cX12_multiply 92 = .ok (.iconst 2, 1) := by decide +kernel
theorem dX12_multiply_93 : decode cX12_multiply 93 = .ok (.isub, 1) := by decide +kernel
theorem dX12_multiply_94 : decode cX12_multiply 94 = .ok (.laload, 1) := by decide +kernel
theorem dX12_multiply_95 : decode cX12_multiply 95 = .ok (.goto 4, 3) := by decide +kernel
theorem dX12_multiply_98 : decode cX12_multiply 98 = .ok (.lconst 0, 1) := by decide +kernel
theorem dX12_multiply_99 : decode cX12_multiply 99 = .ok (.lstore 6, 2) := by decide +kernel
theorem dX12_multiply_101 : decode cX12_multiply 101 = .ok (.aload_n 0, 1) := by decide +kernel
theorem dX12_multiply_102 : decode cX12_multiply 102 = .ok (.getfield 11, 3) := by decide +kernel
theorem dX12_multiply_105 : decode cX12_multiply 105 = .ok (.bipush 39, 2) := by decide +kernel
theorem dX12_multiply_107 : decode cX12_multiply 107 = .ok (.iload_n 2, 1) := by decide +kernel
theorem dX12_multiply_108 : decode cX12_multiply 108 = .ok (.iadd, 1) := by decide +kernel
theorem dX12_multiply_109 : decode cX12_multiply 109 = .ok (.iaload, 1) := by decide +kernel
theorem dX12_multiply_110 : decode cX12_multiply 110 = .ok (.i2l, 1) := by decide +kernel
theorem dX12_multiply_111 : decode cX12_multiply 111 = .ok (.lstore 8, 2) := by decide +kernel
theorem dX12_multiply_113 : decode cX12_multiply 113 = .ok (.aload_n 0, 1) := by decide +kernel
theorem dX12_multiply_114 : decode cX12_multiply 114 = .ok (.getfield 11, 3) := by decide +kernel
theorem dX12_multiply_117 : decode cX12_multiply 117 = .ok (.bipush 45, 2) := by decide +kernel
theorem dX12_multiply_119 : decode cX12_multiply 119 = .ok (.iload_n 2, 1) := by decide +kernel
theorem dX12_multiply_120 : decode cX12_multiply 120 = .ok (.iadd, 1) := by decide +kernel
theorem dX12_multiply_121 : decode cX12_multiply 121 = .ok (.iaload, 1) := by decide +kernel
theorem dX12_multiply_122 : decode cX12_multiply 122 = .ok (.i2l, 1) := by decide +kernel
theorem dX12_multiply_123 : decode cX12_multiply 123 = .ok (.lstore 10, 2) := by decide +kernel
theorem dX12_multiply_125 : decode cX12_multiply 125 = .ok (.aload_n 0, 1) := by decide +kernel
theorem dX12_multiply_126 : decode cX12_multiply 126 = .ok (.getfield 25, 3) := by decide +kernel
theorem dX12_multiply_129 : decode cX12_multiply 129 = .ok (.iload_n 3, 1) := by decide +kernel
theorem dX12_multiply_130 : decode cX12_multiply 130 = .ok (.aload_n 0, 1) := by decide +kernel
theorem dX12_multiply_131 : decode cX12_multiply 131 = .ok (.iload_n 2, 1) := by decide +kernel
theorem dX12_multiply_132 : decode cX12_multiply 132 = .ok (.invokevirtual 322, 3) := by decide +kernel
theorem dX12_multiply_135 : decode cX12_multiply 135 = .ok (.iconst 1, 1) := by decide +kernel
theorem dX12_multiply_136 : decode cX12_multiply 136 = .ok (.if_icmp .ne 18, 3) := by decide +kernel
theorem dX12_multiply_139 : decode cX12_multiply 139 = .ok (.lload 4, 2) := by decide +kernel
theorem dX12_multiply_141 : decode cX12_multiply 141 = .ok (.lload 8, 2) := by decide +kernel
theorem dX12_multiply_143 : decode cX12_multiply 143 = .ok (.aload_n 0, 1) := by decide +kernel
theorem dX12_multiply_144 : decode cX12_multiply 144 = .ok (.getfield 25, 3) := by decide +kernel
theorem dX12_multiply_147 : decode cX12_multiply 147 = .ok (.iload_n 3, 1) := by decide +kernel
theorem dX12_multiply_148 : decode cX12_multiply 148 = .ok (.laload, 1) := by decide +kernel
theorem dX12_multiply_149 : decode cX12_multiply 149 = .ok (.lmul, 1) := by decide +kernel
theorem dX12_multiply_150 : decode cX12_multiply 150 = .ok (.ladd, 1) := by decide +kernel
theorem dX12_multiply_151 : decode cX12_multiply 151 = .ok (.goto 21, 3) := by decide +kernel
theorem dX12_multiply_154 : decode cX12_multiply 154 = .ok (.lload 6, 2) := by decide +kernel
theorem dX12_multiply_156 : decode cX12_multiply 156 = .ok (.lload 8, 2) := by decide +kernel
theorem dX12_multiply_158 : decode cX12_multiply 158 = .ok (.lload 4, 2) := by decide +kernel
theorem dX12_multiply_160 : decode cX12_multiply 160 = .ok (.lmul, 1) := by decide +kernel
theorem dX12_multiply_161 : decode cX12_multiply 161 = .ok (.ladd, 1) := by decide +kernel
theorem dX12_multiply_162 : decode cX12_multiply 162 = .ok (.lload 10, 2) := by decide +kernel
theorem dX12_multiply_164 : decode cX12_multiply 164 = .ok (.aload_n 0, 1) := by decide +kernel
theorem dX12_multiply_165 : decode cX12_multiply 165 = .ok (.getfield 25, 3) := by decide +kernel
theorem dX12_multiply_168 : decode cX12_multiply 168 = .ok (.iload_n 3, 1) := by decide +kernel
theorem dX12_multiply_169 : decode cX12_multiply 169 = .ok (.laload, 1) := by decide +kernel
theorem dX12_multiply_170 : decode cX12_multiply 170 = .ok (.lmul, 1) := by decide +kernel
theorem dX12_multiply_171 : decode cX12_multiply 171 = .ok (.ladd, 1) := by decide +kernel
theorem dX12_multiply_172 : decode cX12_multiply 172 = .ok (.lastore, 1) := by decide +kernel
theorem dX12_multiply_173 : decode cX12_multiply 173 = .ok (.iinc 3 (-1), 3) := by decide +kernel
theorem dX12_multiply_176 : decode cX12_multiply 176 = .ok (.goto (-116), 3) := by decide +kernel
theorem dX12_multiply_179 : decode cX12_multiply 179 = .ok (.iinc 2 1, 3) := by decide +kernel
theorem dX12_multiply_182 : decode cX12_multiply 182 = .ok (.goto (-136), 3) := by decide +kernel
theorem dX12_multiply_185 : decode cX12_multiply 185 = .ok (.iconst 1, 1) := by decide +kernel
theorem dX12_multiply_186 : decode cX12_multiply 186 = .ok (.istore_n 2, 1) := by decide +kernel
theorem dX12_multiply_187 : decode cX12_multiply 187 = .ok (.iconst 0, 1) := by decide +kernel
theorem dX12_multiply_188 : decode cX12_multiply 188 = .ok (.istore_n 3, 1) := by decide +kernel
theorem dX12_multiply_189 : decode cX12_multiply 189 = .ok (.iload_n 3, 1) := by decide +kernel
theorem dX12_multiply_190 : decode cX12_multiply 190 = .ok (.bipush 7, 2) := by decide +kernel
theorem dX12_multiply_192 : decode cX12_multiply 192 = .ok (.if_icmp .ge 37, 3) := by decide +kernel
theorem dX12_multiply_195 : decode cX12_multiply 195 = .ok (.iload_n 2, 1) := by decide +kernel
theorem dX12_multiply_196 : decode cX12_multiply 196 = .ok (.ifCond .eq 25, 3) := by decide +kernel
theorem dX12_multiply_199 : decode cX12_multiply 199 = .ok (.aload_n 0, 1) := by decide +kernel
theorem dX12_multiply_200 : decode cX12_multiply 200 = .ok (.getfield 25, 3) := by decide +kernel
theorem dX12_multiply_203 : decode cX12_multiply 203 = .ok (.iload_n 3, 1) := by decide +kernel
theorem dX12_multiply_204 : decode cX12_multiply 204 = .ok (.laload, 1) := by decide +kernel
theorem dX12_multiply_205 : decode cX12_multiply 205 = .ok (.ldc2_w 91, 3) := by decide +kernel
theorem dX12_multiply_208 : decode cX12_multiply 208 = .ok (.ldc2_w 93, 3) := by decide +kernel
theorem dX12_multiply_211 : decode cX12_multiply 211 = .ok (.invokestatic 83, 3) := by decide +kernel
theorem dX12_multiply_214 : decode cX12_multiply 214 = .ok (.ifCond .eq 7, 3) := by decide +kernel
theorem dX12_multiply_217 : decode cX12_multiply 217 = .ok (.iconst 1, 1) := by decide +kernel
theorem dX12_multiply_218 : decode cX12_multiply 218 = .ok (.goto 4, 3) := by decide +kernel
theorem dX12_multiply_221 : decode cX12_multiply 221 = .ok (.iconst 0, 1) := by decide +kernel
theorem dX12_multiply_222 : decode cX12_multiply 222 = .ok (.istore_n 2, 1) := by decide +kernel
theorem dX12_multiply_223 : decode cX12_multiply 223 = .ok (.iinc 3 1, 3) := by decide +kernel
theorem dX12_multiply_226 : decode cX12_multiply 226 = .ok (.goto (-37), 3) := by decide +kernel
theorem dX12_multiply_229 : decode cX12_multiply 229 = .ok (.iconst 0, 1) := by decide +kernel
theorem dX12_multiply_230 : decode cX12_multiply 230 = .ok (.istore_n 3, 1) := by decide +kernel
theorem dX12_multiply_231 : decode cX12_multiply 231 = .ok (.iload_n 3, 1) := by decide +kernel
theorem dX12_multiply_232 : decode cX12_multiply 232 = .ok (.bipush 7, 2) := by decide +kernel
theorem dX12_multiply_234 : decode cX12_multiply 234 = .ok (.if_icmp .ge 28, 3) := by decide +kernel
theorem dX12_multiply_237 : decode cX12_multiply 237 = .ok (.iload_n 2, 1) := by decide +kernel
theorem dX12_multiply_238 : decode cX12_multiply 238 = .ok (.ifCond .eq 24, 3) := by decide +kernel
theorem dX12_multiply_241 : decode cX12_multiply 241 = .ok (.aload_n 0, 1) := by decide +kernel
theorem dX12_multiply_242 : decode cX12_multiply 242 = .ok (.getfield 11, 3) := by decide +kernel
theorem dX12_multiply_245 : decode cX12_multiply 245 = .ok (.iconst 0, 1) := by decide +kernel
theorem dX12_multiply_246 : decode cX12_multiply 246 = .ok (.iload_n 3, 1) := by decide +kernel
theorem dX12_multiply_247 : decode cX12_multiply 247 = .ok (.iadd, 1) := by decide +kernel
theorem dX12_multiply_248 : decode cX12_multiply 248 = .ok (.aload_n 0, 1) := by decide +kernel
theorem dX12_multiply_249 : decode cX12_multiply 249 = .ok (.getfield 25, 3) := by decide +kernel
theorem dX12_multiply_252 : decode cX12_multiply 252 = .ok (.iload_n 3, 1) := by decide +kernel
theorem dX12_multiply_253 : decode cX12_multiply 253 = .ok (.laload, 1) := by decide +kernel
theorem dX12_multiply_254 : decode cX12_multiply 254 = .ok (.l2i, 1) := by decide +kernel
theorem dX12_multiply_255 : decode cX12_multiply 255 = .ok (.iastore, 1) := by decide +kernel
theorem dX12_multiply_256 : decode cX12_multiply 256 = .ok (.iinc 3 1, 3) := by decide +kernel
theorem dX12_multiply_259 : decode cX12_multiply 259 = .ok (.goto (-28), 3) := by decide +kernel
theorem dX12_multiply_262 : decode cX12_multiply 262 = .ok (.iload_n 2, 1) := by decide +kernel
theorem dX12_multiply_263 : decode cX12_multiply 263 = .ok (.ifCond .eq 7, 3) := by decide +kernel
theorem dX12_multiply_266 : decode cX12_multiply 266 = .ok (.iload_n 1, 1) := by decide +kernel
theorem dX12_multiply_267 : decode cX12_multiply 267 = .ok (.goto 5, 3) := by decide +kernel
theorem dX12_multiply_270 : decode cX12_multiply 270 = .ok (.bipush (-7), 2) := by decide +kernel
theorem dX12_multiply_272 : decode cX12_multiply 272 = .ok (.ireturn, 1) := by decide +kernel
theorem dX12_rightsAt_0 : decode cX12_rightsAt 0 = .ok (.aload_n 0, 1) := by decide +kernel
theorem dX12_rightsAt_1 : decode cX12_rightsAt 1 = .ok (.iconst 1, 1) := by decide +kernel
theorem dX12_rightsAt_2 : decode cX12_rightsAt 2 = .ok (.iload_n 1, 1) := by decide +kernel
theorem dX12_rightsAt_3 : decode cX12_rightsAt 3 = .ok (.invokevirtual 97, 3) := by decide +kernel
theorem dX12_rightsAt_6 : decode cX12_rightsAt 6 = .ok (.aload_n 0, 1) := by decide +kernel
theorem dX12_rightsAt_7 : decode cX12_rightsAt 7 = .ok (.iconst 0, 1) := by decide +kernel
theorem dX12_rightsAt_8 : decode cX12_rightsAt 8 = .ok (.invokevirtual 127, 3) := by decide +kernel
theorem dX12_rightsAt_11 : decode cX12_rightsAt 11 = .ok (.aload_n 0, 1) := by decide +kernel
theorem dX12_rightsAt_12 : decode cX12_rightsAt 12 = .ok (.invokevirtual 170, 3) := by decide +kernel
theorem dX12_rightsAt_15 : decode cX12_rightsAt 15 = .ok (.aload_n 0, 1) := by decide +kernel
theorem dX12_rightsAt_16 : decode cX12_rightsAt 16 = .ok (.getfield 69, 3) := by decide +kernel
theorem dX12_rightsAt_19 : decode cX12_rightsAt 19 = .ok (.ifCond .eq 8, 3) := by decide +kernel
theorem dX12_rightsAt_22 : decode cX12_rightsAt 22 = .ok (.bipush (-7), 2) := by decide +kernel
theorem dX12_rightsAt_24 : decode cX12_rightsAt 24 = .ok (.goto 7, 3) := by decide +kernel
theorem dX12_rightsAt_27 : decode cX12_rightsAt 27 = .ok (.aload_n 0, 1) := by decide +kernel
theorem dX12_rightsAt_28 : decode cX12_rightsAt 28 = .ok (.invokevirtual 187, 3) := by decide +kernel
theorem dX12_rightsAt_31 : decode cX12_rightsAt 31 = .ok (.ireturn, 1) := by decide +kernel
theorem dX12_rights_0 : decode cX12_rights 0 = .ok (.iload_n 1, 1) := by decide +kernel
theorem dX12_rights_1 : decode cX12_rights 1 = .ok (.i2l, 1) := by decide +kernel
theorem dX12_rights_2 : decode cX12_rights 2 = .ok (.ldc2_w 101, 3) := by decide +kernel
theorem dX12_rights_5 : decode cX12_rights 5 = .ok (.ldc2_w 103, 3) := by decide +kernel
theorem dX12_rights_8 : decode cX12_rights 8 = .ok (.invokestatic 83, 3) := by decide +kernel
theorem dX12_rights_11 : decode cX12_rights 11 = .ok (.ifCond .eq 11, 3) := by decide +kernel
theorem dX12_rights_14 : decode cX12_rights 14 = .ok (.aload_n 0, 1) := by decide +kernel
theorem dX12_rights_15 : decode cX12_rights 15 = .ok (.iload_n 1, 1) := by decide +kernel
theorem dX12_rights_16 : decode cX12_rights 16 = .ok (.invokevirtual 336, 3) := by decide +kernel
theorem dX12_rights_19 : decode cX12_rights 19 = .ok (.goto 5, 3) := by decide +kernel
theorem dX12_rights_22 : decode cX12_rights 22 = .ok (.bipush (-2), 2) := by decide +kernel
theorem dX12_rights_24 : decode cX12_rights 24 = .ok (.ireturn, 1) := by decide +kernel
theorem dX12_findsJump_0 : decode cX12_findsJump 0 = .ok (.aload_n 0, 1) := by decide +kernel
theorem dX12_findsJump_1 : decode cX12_findsJump 1 = .ok (.iconst 0, 1) := by decide +kernel
theorem dX12_findsJump_2 : decode cX12_findsJump 2 = .ok (.putfield 339, 3) := by decide +kernel
theorem dX12_findsJump_5 : decode cX12_findsJump 5 = .ok (.aload_n 0, 1) := by decide +kernel
theorem dX12_findsJump_6 : decode cX12_findsJump 6 = .ok (.bipush (-100), 2) := by decide +kernel
theorem dX12_findsJump_8 : decode cX12_findsJump 8 = .ok (.invokevirtual 336, 3) := by decide +kernel
theorem dX12_findsJump_11 : decode cX12_findsJump 11 = .ok (.istore_n 2, 1) := by decide +kernel
theorem dX12_findsJump_12 : decode cX12_findsJump 12 = .ok (.bipush (-99), 2) := by decide +kernel
theorem dX12_findsJump_14 : decode cX12_findsJump 14 = .ok (.istore_n 3, 1) := by decide +kernel
theorem dX12_findsJump_15 : decode cX12_findsJump 15 = .ok (.iload_n 3, 1) := by decide +kernel
theorem dX12_findsJump_16 : decode cX12_findsJump 16 = .ok (.bipush 100, 2) := by decide +kernel
theorem dX12_findsJump_18 : decode cX12_findsJump 18 = .ok (.if_icmp .gt 55, 3) := by decide +kernel
theorem dX12_findsJump_21 : decode cX12_findsJump 21 = .ok (.aload_n 0, 1) := by decide +kernel
theorem dX12_findsJump_22 : decode cX12_findsJump 22 = .ok (.iload_n 3, 1) := by decide +kernel
theorem dX12_findsJump_23 : decode cX12_findsJump 23 = .ok (.invokevirtual 336, 3) := by decide +kernel
theorem dX12_findsJump_26 : decode cX12_findsJump 26 = .ok (.istore 4, 2) := by decide +kernel
theorem dX12_findsJump_28 : decode cX12_findsJump 28 = .ok (.iload 4, 2) := by decide +kernel
theorem dX12_findsJump_30 : decode cX12_findsJump 30 = .ok (.iload_n 2, 1) := by decide +kernel
theorem dX12_findsJump_31 : decode cX12_findsJump 31 = .ok (.if_icmp .eq 33, 3) := by decide +kernel
theorem dX12_findsJump_34 : decode cX12_findsJump 34 = .ok (.aload_n 0, 1) := by decide +kernel
theorem dX12_findsJump_35 : decode cX12_findsJump 35 = .ok (.aload_n 0, 1) := by decide +kernel
theorem dX12_findsJump_36 : decode cX12_findsJump 36 = .ok (.getfield 339, 3) := by decide +kernel
theorem dX12_findsJump_39 : decode cX12_findsJump 39 = .ok (.iload_n 1, 1) := by decide +kernel
theorem dX12_findsJump_40 : decode cX12_findsJump 40 = .ok (.if_icmp .ne 7, 3) := by decide +kernel
theorem dX12_findsJump_43 : decode cX12_findsJump 43 = .ok (.iload_n 3, 1) := by decide +kernel
theorem dX12_findsJump_44 : decode cX12_findsJump 44 = .ok (.goto 7, 3) := by decide +kernel
theorem dX12_findsJump_47 : decode cX12_findsJump 47 = .ok (.aload_n 0, 1) := by decide +kernel
theorem dX12_findsJump_48 : decode cX12_findsJump 48 = .ok (.getfield 342, 3) := by decide +kernel
theorem dX12_findsJump_51 : decode cX12_findsJump 51 = .ok (.putfield 342, 3) := by decide +kernel
theorem dX12_findsJump_54 : decode cX12_findsJump 54 = .ok (.aload_n 0, 1) := by decide +kernel
theorem dX12_findsJump_55 : decode cX12_findsJump 55 = .ok (.dup, 1) := by decide +kernel
theorem dX12_findsJump_56 : decode cX12_findsJump 56 = .ok (.getfield 339, 3) := by decide +kernel
theorem dX12_findsJump_59 : decode cX12_findsJump 59 = .ok (.iconst 1, 1) := by decide +kernel
theorem dX12_findsJump_60 : decode cX12_findsJump 60 = .ok (.iadd, 1) := by decide +kernel
theorem dX12_findsJump_61 : decode cX12_findsJump 61 = .ok (.putfield 339, 3) := by decide +kernel
theorem dX12_findsJump_64 : decode cX12_findsJump 64 = .ok (.iload 4, 2) := by decide +kernel
theorem dX12_findsJump_66 : decode cX12_findsJump 66 = .ok (.istore_n 2, 1) := by decide +kernel
theorem dX12_findsJump_67 : decode cX12_findsJump 67 = .ok (.iinc 3 1, 3) := by decide +kernel
theorem dX12_findsJump_70 : decode cX12_findsJump 70 = .ok (.goto (-55), 3) := by decide +kernel
theorem dX12_findsJump_73 : decode cX12_findsJump 73 = .ok (.return_, 1) := by decide +kernel
theorem dX12_jumps_0 : decode cX12_jumps 0 = .ok (.aload_n 0, 1) := by decide +kernel
theorem dX12_jumps_1 : decode cX12_jumps 1 = .ok (.iconst 0, 1) := by decide +kernel
theorem dX12_jumps_2 : decode cX12_jumps 2 = .ok (.invokevirtual 345, 3) := by decide +kernel
theorem dX12_jumps_5 : decode cX12_jumps 5 = .ok (.aload_n 0, 1) := by decide +kernel
theorem dX12_jumps_6 : decode cX12_jumps 6 = .ok (.getfield 339, 3) := by decide +kernel
theorem dX12_jumps_9 : decode cX12_jumps 9 = .ok (.ireturn, 1) := by decide +kernel
theorem dX12_jump_0 : decode cX12_jump 0 = .ok (.aload_n 0, 1) := by decide +kernel
theorem dX12_jump_1 : decode cX12_jump 1 = .ok (.iload_n 1, 1) := by decide +kernel
theorem dX12_jump_2 : decode cX12_jump 2 = .ok (.invokevirtual 345, 3) := by decide +kernel
theorem dX12_jump_5 : decode cX12_jump 5 = .ok (.iload_n 1, 1) := by decide +kernel
theorem dX12_jump_6 : decode cX12_jump 6 = .ok (.i2l, 1) := by decide +kernel
theorem dX12_jump_7 : decode cX12_jump 7 = .ok (.lconst 0, 1) := by decide +kernel
theorem dX12_jump_8 : decode cX12_jump 8 = .ok (.aload_n 0, 1) := by decide +kernel
theorem dX12_jump_9 : decode cX12_jump 9 = .ok (.getfield 339, 3) := by decide +kernel
theorem dX12_jump_12 : decode cX12_jump 12 = .ok (.iconst 1, 1) := by decide +kernel
theorem dX12_jump_13 : decode cX12_jump 13 = .ok (.isub, 1) := by decide +kernel
theorem dX12_jump_14 : decode cX12_jump 14 = .ok (.i2l, 1) := by decide +kernel
theorem dX12_jump_15 : decode cX12_jump 15 = .ok (.invokestatic 83, 3) := by decide +kernel
theorem dX12_jump_18 : decode cX12_jump 18 = .ok (.ifCond .eq 14, 3) := by decide +kernel
theorem dX12_jump_21 : decode cX12_jump 21 = .ok (.aload_n 0, 1) := by decide +kernel
theorem dX12_jump_22 : decode cX12_jump 22 = .ok (.getfield 342, 3) := by decide +kernel
theorem dX12_jump_25 : decode cX12_jump 25 = .ok (.sipush 1000, 3) := by decide +kernel
theorem dX12_jump_28 : decode cX12_jump 28 = .ok (.iadd, 1) := by decide +kernel
theorem dX12_jump_29 : decode cX12_jump 29 = .ok (.goto 4, 3) := by decide +kernel
theorem dX12_jump_32 : decode cX12_jump 32 = .ok (.iconst (-1), 1) := by decide +kernel
theorem dX12_jump_33 : decode cX12_jump 33 = .ok (.ireturn, 1) := by decide +kernel
theorem dX12_best_0 : decode cX12_best 0 = .ok (.iconst 0, 1) := by decide +kernel
theorem dX12_best_1 : decode cX12_best 1 = .ok (.istore_n 1, 1) := by decide +kernel
theorem dX12_best_2 : decode cX12_best 2 = .ok (.iconst (-1), 1) := by decide +kernel
theorem dX12_best_3 : decode cX12_best 3 = .ok (.istore_n 2, 1) := by decide +kernel
theorem dX12_best_4 : decode cX12_best 4 = .ok (.iconst 0, 1) := by decide +kernel
theorem dX12_best_5 : decode cX12_best 5 = .ok (.istore_n 3, 1) := by decide +kernel
theorem dX12_best_6 : decode cX12_best 6 = .ok (.iload_n 3, 1) := by decide +kernel
theorem dX12_best_7 : decode cX12_best 7 = .ok (.sipush 200, 3) := by decide +kernel
theorem dX12_best_10 : decode cX12_best 10 = .ok (.if_icmp .gt 58, 3) := by decide +kernel
theorem dX12_best_13 : decode cX12_best 13 = .ok (.iload_n 3, 1) := by decide +kernel
theorem dX12_best_14 : decode cX12_best 14 = .ok (.iconst 2, 1) := by decide +kernel
theorem dX12_best_15 : decode cX12_best 15 = .ok (.irem, 1) := by decide +kernel
theorem dX12_best_16 : decode cX12_best 16 = .ok (.ifCond .ne 9, 3) := by decide +kernel
theorem dX12_best_19 : decode cX12_best 19 = .ok (.iload_n 3, 1) := by decide +kernel
theorem dX12_best_20 : decode cX12_best 20 = .ok (.iconst 2, 1) := by decide +kernel
theorem dX12_best_21 : decode cX12_best 21 = .ok (.idiv, 1) := by decide +kernel
theorem dX12_best_22 : decode cX12_best 22 = .ok (.goto 9, 3) := by decide +kernel
theorem dX12_best_25 : decode cX12_best 25 = .ok (.iload_n 3, 1) := by decide +kernel
theorem dX12_best_26 : decode cX12_best 26 = .ok (.iconst 1, 1) := by decide +kernel
theorem dX12_best_27 : decode cX12_best 27 = .ok (.iadd, 1) := by decide +kernel
theorem dX12_best_28 : decode cX12_best 28 = .ok (.ineg, 1) := by decide +kernel
theorem dX12_best_29 : decode cX12_best 29 = .ok (.iconst 2, 1) := by decide +kernel
theorem dX12_best_30 : decode cX12_best 30 = .ok (.idiv, 1) := by decide +kernel
theorem dX12_best_31 : decode cX12_best 31 = .ok (.istore 4, 2) := by decide +kernel
theorem dX12_best_33 : decode cX12_best 33 = .ok (.aload_n 0, 1) := by decide +kernel
theorem dX12_best_34 : decode cX12_best 34 = .ok (.iload 4, 2) := by decide +kernel
theorem dX12_best_36 : decode cX12_best 36 = .ok (.invokevirtual 336, 3) := by decide +kernel
theorem dX12_best_39 : decode cX12_best 39 = .ok (.istore 5, 2) := by decide +kernel
theorem dX12_best_41 : decode cX12_best 41 = .ok (.iload 5, 2) := by decide +kernel
theorem dX12_best_43 : decode cX12_best 43 = .ok (.ifCond .lt 19, 3) := by decide +kernel
theorem dX12_best_46 : decode cX12_best 46 = .ok (.iload_n 2, 1) := by decide +kernel
theorem dX12_best_47 : decode cX12_best 47 = .ok (.ifCond .lt 9, 3) := by decide +kernel
theorem dX12_best_50 : decode cX12_best 50 = .ok (.iload 5, 2) := by decide +kernel
theorem dX12_best_52 : decode cX12_best 52 = .ok (.iload_n 2, 1) := by decide +kernel
theorem dX12_best_53 : decode cX12_best 53 = .ok (.if_icmp .ge 9, 3) := by decide +kernel
theorem dX12_best_56 : decode cX12_best 56 = .ok (.iload 4, 2) := by decide +kernel
theorem dX12_best_58 : decode cX12_best 58 = .ok (.istore_n 1, 1) := by decide +kernel
theorem dX12_best_59 : decode cX12_best 59 = .ok (.iload 5, 2) := by decide +kernel
theorem dX12_best_61 : decode cX12_best 61 = .ok (.istore_n 2, 1) := by decide +kernel
theorem dX12_best_62 : decode cX12_best 62 = .ok (.iinc 3 1, 3) := by decide +kernel
theorem dX12_best_65 : decode cX12_best 65 = .ok (.goto (-59), 3) := by decide +kernel
theorem dX12_best_68 : decode cX12_best 68 = .ok (.iload_n 2, 1) := by decide +kernel
theorem dX12_best_69 : decode cX12_best 69 = .ok (.ifCond .ge 7, 3) := by decide +kernel
theorem dX12_best_72 : decode cX12_best 72 = .ok (.iconst (-1), 1) := by decide +kernel
theorem dX12_best_73 : decode cX12_best 73 = .ok (.goto 8, 3) := by decide +kernel
theorem dX12_best_76 : decode cX12_best 76 = .ok (.iload_n 1, 1) := by decide +kernel
theorem dX12_best_77 : decode cX12_best 77 = .ok (.sipush 1000, 3) := by decide +kernel
theorem dX12_best_80 : decode cX12_best 80 = .ok (.iadd, 1) := by decide +kernel
theorem dX12_best_81 : decode cX12_best 81 = .ok (.ireturn, 1) := by decide +kernel
theorem dX12_copies_0 : decode cX12_copies 0 = .ok (.iconst 0, 1) := by decide +kernel
theorem dX12_copies_1 : decode cX12_copies 1 = .ok (.istore_n 2, 1) := by decide +kernel
theorem dX12_copies_2 : decode cX12_copies 2 = .ok (.iload_n 2, 1) := by decide +kernel
theorem dX12_copies_3 : decode cX12_copies 3 = .ok (.bipush 51, 2) := by decide +kernel
theorem dX12_copies_5 : decode cX12_copies 5 = .ok (.if_icmp .ge 15, 3) := by decide +kernel
theorem dX12_copies_8 : decode cX12_copies 8 = .ok (.aload_n 1, 1) := by decide +kernel
theorem dX12_copies_9 : decode cX12_copies 9 = .ok (.iload_n 2, 1) := by decide +kernel
theorem dX12_copies_10 : decode cX12_copies 10 = .ok (.aload_n 0, 1) := by decide +kernel
theorem dX12_copies_11 : decode cX12_copies 11 = .ok (.iload_n 2, 1) := by decide +kernel
theorem dX12_copies_12 : decode cX12_copies 12 = .ok (.iaload, 1) := by decide +kernel
theorem dX12_copies_13 : decode cX12_copies 13 = .ok (.iastore, 1) := by decide +kernel
theorem dX12_copies_14 : decode cX12_copies 14 = .ok (.iinc 2 1, 3) := by decide +kernel
theorem dX12_copies_17 : decode cX12_copies 17 = .ok (.goto (-15), 3) := by decide +kernel
theorem dX12_copies_20 : decode cX12_copies 20 = .ok (.return_, 1) := by decide +kernel
theorem dX12_image_0 : decode cX12_image 0 = .ok (.aload_n 0, 1) := by decide +kernel
theorem dX12_image_1 : decode cX12_image 1 = .ok (.getfield 11, 3) := by decide +kernel
theorem dX12_image_4 : decode cX12_image 4 = .ok (.aload_n 0, 1) := by decide +kernel
theorem dX12_image_5 : decode cX12_image 5 = .ok (.getfield 15, 3) := by decide +kernel
theorem dX12_image_8 : decode cX12_image 8 = .ok (.invokestatic 348, 3) := by decide +kernel
theorem dX12_image_11 : decode cX12_image 11 = .ok (.aload_n 0, 1) := by decide +kernel
theorem dX12_image_12 : decode cX12_image 12 = .ok (.iconst 1, 1) := by decide +kernel
theorem dX12_image_13 : decode cX12_image 13 = .ok (.putfield 352, 3) := by decide +kernel
theorem dX12_image_16 : decode cX12_image 16 = .ok (.aload_n 0, 1) := by decide +kernel
theorem dX12_image_17 : decode cX12_image 17 = .ok (.getfield 11, 3) := by decide +kernel
theorem dX12_image_20 : decode cX12_image 20 = .ok (.bipush 15, 2) := by decide +kernel
theorem dX12_image_22 : decode cX12_image 22 = .ok (.iaload, 1) := by decide +kernel
theorem dX12_image_23 : decode cX12_image 23 = .ok (.ireturn, 1) := by decide +kernel
theorem dX12_undo_0 : decode cX12_undo 0 = .ok (.aload_n 0, 1) := by decide +kernel
theorem dX12_undo_1 : decode cX12_undo 1 = .ok (.getfield 352, 3) := by decide +kernel
theorem dX12_undo_4 : decode cX12_undo 4 = .ok (.ifCond .ne 6, 3) := by decide +kernel
theorem dX12_undo_7 : decode cX12_undo 7 = .ok (.bipush (-3), 2) := by decide +kernel
theorem dX12_undo_9 : decode cX12_undo 9 = .ok (.ireturn, 1) := by decide +kernel
theorem dX12_undo_10 : decode cX12_undo 10 = .ok (.aload_n 0, 1) := by decide +kernel
theorem dX12_undo_11 : decode cX12_undo 11 = .ok (.getfield 15, 3) := by decide +kernel
theorem dX12_undo_14 : decode cX12_undo 14 = .ok (.aload_n 0, 1) := by decide +kernel
theorem dX12_undo_15 : decode cX12_undo 15 = .ok (.getfield 11, 3) := by decide +kernel
theorem dX12_undo_18 : decode cX12_undo 18 = .ok (.invokestatic 348, 3) := by decide +kernel
theorem dX12_undo_21 : decode cX12_undo 21 = .ok (.aload_n 0, 1) := by decide +kernel
theorem dX12_undo_22 : decode cX12_undo 22 = .ok (.getfield 11, 3) := by decide +kernel
theorem dX12_undo_25 : decode cX12_undo 25 = .ok (.bipush 15, 2) := by decide +kernel
theorem dX12_undo_27 : decode cX12_undo 27 = .ok (.iaload, 1) := by decide +kernel
theorem dX12_undo_28 : decode cX12_undo 28 = .ok (.ireturn, 1) := by decide +kernel
theorem dJ9_abs_0f7a4_0 : decode cJ9_abs_0f7a4 0 = .ok (.iload_n 0, 1) := by decide +kernel
theorem dJ9_abs_0f7a4_1 : decode cJ9_abs_0f7a4 1 = .ok (.ifCond .ge 8, 3) := by decide +kernel
theorem dJ9_abs_0f7a4_4 : decode cJ9_abs_0f7a4 4 = .ok (.iload_n 0, 1) := by decide +kernel
theorem dJ9_abs_0f7a4_5 : decode cJ9_abs_0f7a4 5 = .ok (.ineg, 1) := by decide +kernel
theorem dJ9_abs_0f7a4_6 : decode cJ9_abs_0f7a4 6 = .ok (.goto 4, 3) := by decide +kernel
theorem dJ9_abs_0f7a4_9 : decode cJ9_abs_0f7a4 9 = .ok (.iload_n 0, 1) := by decide +kernel
theorem dJ9_abs_0f7a4_10 : decode cJ9_abs_0f7a4 10 = .ok (.ireturn, 1) := by decide +kernel
theorem dJ9_abs_067f4_0 : decode cJ9_abs_067f4 0 = .ok (.lload_n 0, 1) := by decide +kernel
theorem dJ9_abs_067f4_1 : decode cJ9_abs_067f4 1 = .ok (.lconst 0, 1) := by decide +kernel
theorem dJ9_abs_067f4_2 : decode cJ9_abs_067f4 2 = .ok (.lcmp, 1) := by decide +kernel
theorem dJ9_abs_067f4_3 : decode cJ9_abs_067f4 3 = .ok (.ifCond .ge 8, 3) := by decide +kernel
theorem dJ9_abs_067f4_6 : decode cJ9_abs_067f4 6 = .ok (.lload_n 0, 1) := by decide +kernel
theorem dJ9_abs_067f4_7 : decode cJ9_abs_067f4 7 = .ok (.lneg, 1) := by decide +kernel
theorem dJ9_abs_067f4_8 : decode cJ9_abs_067f4 8 = .ok (.goto 4, 3) := by decide +kernel
theorem dJ9_abs_067f4_11 : decode cJ9_abs_067f4 11 = .ok (.lload_n 0, 1) := by decide +kernel
theorem dJ9_abs_067f4_12 : decode cJ9_abs_067f4 12 = .ok (.lreturn, 1) := by decide +kernel
theorem dJ9_max_7cf53_0 : decode cJ9_max_7cf53 0 = .ok (.iload_n 0, 1) := by decide +kernel
theorem dJ9_max_7cf53_1 : decode cJ9_max_7cf53 1 = .ok (.iload_n 1, 1) := by decide +kernel
theorem dJ9_max_7cf53_2 : decode cJ9_max_7cf53 2 = .ok (.if_icmp .lt 7, 3) := by decide +kernel
theorem dJ9_max_7cf53_5 : decode cJ9_max_7cf53 5 = .ok (.iload_n 0, 1) := by decide +kernel
theorem dJ9_max_7cf53_6 : decode cJ9_max_7cf53 6 = .ok (.goto 4, 3) := by decide +kernel
theorem dJ9_max_7cf53_9 : decode cJ9_max_7cf53 9 = .ok (.iload_n 1, 1) := by decide +kernel
theorem dJ9_max_7cf53_10 : decode cJ9_max_7cf53 10 = .ok (.ireturn, 1) := by decide +kernel
theorem dJ9_min_7cf53_0 : decode cJ9_min_7cf53 0 = .ok (.iload_n 0, 1) := by decide +kernel
theorem dJ9_min_7cf53_1 : decode cJ9_min_7cf53 1 = .ok (.iload_n 1, 1) := by decide +kernel
theorem dJ9_min_7cf53_2 : decode cJ9_min_7cf53 2 = .ok (.if_icmp .gt 7, 3) := by decide +kernel
theorem dJ9_min_7cf53_5 : decode cJ9_min_7cf53 5 = .ok (.iload_n 0, 1) := by decide +kernel
theorem dJ9_min_7cf53_6 : decode cJ9_min_7cf53 6 = .ok (.goto 4, 3) := by decide +kernel
theorem dJ9_min_7cf53_9 : decode cJ9_min_7cf53 9 = .ok (.iload_n 1, 1) := by decide +kernel
theorem dJ9_min_7cf53_10 : decode cJ9_min_7cf53 10 = .ok (.ireturn, 1) := by decide +kernel
theorem dL_law_0 : decode cL_law 0 = .ok (.new 7, 3) := by decide +kernel
theorem dL_law_3 : decode cL_law 3 = .ok (.dup, 1) := by decide +kernel
theorem dL_law_4 : decode cL_law 4 = .ok (.invokespecial 9, 3) := by decide +kernel
theorem dL_law_7 : decode cL_law 7 = .ok (.astore_n 1, 1) := by decide +kernel
theorem dL_law_8 : decode cL_law 8 = .ok (.new 10, 3) := by decide +kernel
theorem dL_law_11 : decode cL_law 11 = .ok (.dup, 1) := by decide +kernel
theorem dL_law_12 : decode cL_law 12 = .ok (.invokespecial 12, 3) := by decide +kernel
theorem dL_law_15 : decode cL_law 15 = .ok (.astore_n 2, 1) := by decide +kernel
theorem dL_law_16 : decode cL_law 16 = .ok (.iconst 0, 1) := by decide +kernel
theorem dL_law_17 : decode cL_law 17 = .ok (.istore_n 3, 1) := by decide +kernel
theorem dL_law_18 : decode cL_law 18 = .ok (.iload_n 3, 1) := by decide +kernel
theorem dL_law_19 : decode cL_law 19 = .ok (.aload_n 0, 1) := by decide +kernel
theorem dL_law_20 : decode cL_law 20 = .ok (.arraylength, 1) := by decide +kernel
theorem dL_law_21 : decode cL_law 21 = .ok (.bipush 6, 2) := by decide +kernel
theorem dL_law_23 : decode cL_law 23 = .ok (.isub, 1) := by decide +kernel
theorem dL_law_24 : decode cL_law 24 = .ok (.if_icmp .gt 1524, 3) := by decide +kernel
theorem dL_law_27 : decode cL_law 27 = .ok (.aload_n 0, 1) := by decide +kernel
theorem dL_law_28 : decode cL_law 28 = .ok (.iload_n 3, 1) := by decide +kernel
theorem dL_law_29 : decode cL_law 29 = .ok (.iaload, 1) := by decide +kernel
theorem dL_law_30 : decode cL_law 30 = .ok (.bipush 63, 2) := by decide +kernel
theorem dL_law_32 : decode cL_law 32 = .ok (.iand, 1) := by decide +kernel
theorem dL_law_33 : decode cL_law 33 = .ok (.tableswitch 1509 0 43 #[191, 235, 269, 292, 315, 328, 362, 395, 439, 472, 505, 548, 581, 594, 637, 660, 703, 736, 749, 783, 806, 839, 862, 875, 898, 931, 954, 997, 1030, 1053, 1076, 1089, 1112, 1125, 1148, 1161, 1204, 1277, 1311, 1354, 1397, 1460, 1483, 1496], 191) := by decide +kernel
theorem dL_law_224 : decode cL_law 224 = .ok (.aload_n 1, 1) := by decide +kernel
theorem dL_law_225 : decode cL_law 225 = .ok (.aload_n 0, 1) := by decide +kernel
theorem dL_law_226 : decode cL_law 226 = .ok (.iload_n 3, 1) := by decide +kernel
theorem dL_law_227 : decode cL_law 227 = .ok (.iconst 1, 1) := by decide +kernel
theorem dL_law_228 : decode cL_law 228 = .ok (.iadd, 1) := by decide +kernel
theorem dL_law_229 : decode cL_law 229 = .ok (.iaload, 1) := by decide +kernel
theorem dL_law_230 : decode cL_law 230 = .ok (.aload_n 0, 1) := by decide +kernel
theorem dL_law_231 : decode cL_law 231 = .ok (.iload_n 3, 1) := by decide +kernel
theorem dL_law_232 : decode cL_law 232 = .ok (.iconst 2, 1) := by decide +kernel
theorem dL_law_233 : decode cL_law 233 = .ok (.iadd, 1) := by decide +kernel
theorem dL_law_234 : decode cL_law 234 = .ok (.iaload, 1) := by decide +kernel
theorem dL_law_235 : decode cL_law 235 = .ok (.aload_n 0, 1) := by decide +kernel
theorem dL_law_236 : decode cL_law 236 = .ok (.iload_n 3, 1) := by decide +kernel
theorem dL_law_237 : decode cL_law 237 = .ok (.iconst 3, 1) := by decide +kernel
theorem dL_law_238 : decode cL_law 238 = .ok (.iadd, 1) := by decide +kernel
theorem dL_law_239 : decode cL_law 239 = .ok (.iaload, 1) := by decide +kernel
theorem dL_law_240 : decode cL_law 240 = .ok (.invokevirtual 13, 3) := by decide +kernel
theorem dL_law_243 : decode cL_law 243 = .ok (.aload_n 2, 1) := by decide +kernel
theorem dL_law_244 : decode cL_law 244 = .ok (.aload_n 0, 1) := by decide +kernel
theorem dL_law_245 : decode cL_law 245 = .ok (.iload_n 3, 1) := by decide +kernel
theorem dL_law_246 : decode cL_law 246 = .ok (.iconst 1, 1) := by decide +kernel
theorem dL_law_247 : decode cL_law 247 = .ok (.iadd, 1) := by decide +kernel
theorem dL_law_248 : decode cL_law 248 = .ok (.iaload, 1) := by decide +kernel
theorem dL_law_249 : decode cL_law 249 = .ok (.aload_n 0, 1) := by decide +kernel
theorem dL_law_250 : decode cL_law 250 = .ok (.iload_n 3, 1) := by decide +kernel
theorem dL_law_251 : decode cL_law 251 = .ok (.iconst 2, 1) := by decide +kernel
theorem dL_law_252 : decode cL_law 252 = .ok (.iadd, 1) := by decide +kernel
theorem dL_law_253 : decode cL_law 253 = .ok (.iaload, 1) := by decide +kernel
theorem dL_law_254 : decode cL_law 254 = .ok (.aload_n 0, 1) := by decide +kernel
theorem dL_law_255 : decode cL_law 255 = .ok (.iload_n 3, 1) := by decide +kernel
theorem dL_law_256 : decode cL_law 256 = .ok (.iconst 3, 1) := by decide +kernel
theorem dL_law_257 : decode cL_law 257 = .ok (.iadd, 1) := by decide +kernel
theorem dL_law_258 : decode cL_law 258 = .ok (.iaload, 1) := by decide +kernel
theorem dL_law_259 : decode cL_law 259 = .ok (.invokevirtual 17, 3) := by decide +kernel
theorem dL_law_262 : decode cL_law 262 = .ok (.lcmp, 1) := by decide +kernel
theorem dL_law_263 : decode cL_law 263 = .ok (.ifCond .eq 1279, 3) := by decide +kernel
theorem dL_law_266 : decode cL_law 266 = .ok (.iconst 0, 1) := by decide +kernel
theorem dL_law_267 : decode cL_law 267 = .ok (.ireturn, 1) := by decide +kernel
theorem dL_law_268 : decode cL_law 268 = .ok (.aload_n 1, 1) := by decide +kernel
theorem dL_law_269 : decode cL_law 269 = .ok (.aload_n 0, 1) := by decide +kernel
theorem dL_law_270 : decode cL_law 270 = .ok (.iload_n 3, 1) := by decide +kernel
theorem dL_law_271 : decode cL_law 271 = .ok (.iconst 1, 1) := by decide +kernel
theorem dL_law_272 : decode cL_law 272 = .ok (.iadd, 1) := by decide +kernel
theorem dL_law_273 : decode cL_law 273 = .ok (.iaload, 1) := by decide +kernel
theorem dL_law_274 : decode cL_law 274 = .ok (.aload_n 0, 1) := by decide +kernel
theorem dL_law_275 : decode cL_law 275 = .ok (.iload_n 3, 1) := by decide +kernel
theorem dL_law_276 : decode cL_law 276 = .ok (.iconst 2, 1) := by decide +kernel
theorem dL_law_277 : decode cL_law 277 = .ok (.iadd, 1) := by decide +kernel
theorem dL_law_278 : decode cL_law 278 = .ok (.iaload, 1) := by decide +kernel
theorem dL_law_279 : decode cL_law 279 = .ok (.invokevirtual 18, 3) := by decide +kernel
theorem dL_law_282 : decode cL_law 282 = .ok (.aload_n 2, 1) := by decide +kernel
theorem dL_law_283 : decode cL_law 283 = .ok (.aload_n 0, 1) := by decide +kernel
theorem dL_law_284 : decode cL_law 284 = .ok (.iload_n 3, 1) := by decide +kernel
theorem dL_law_285 : decode cL_law 285 = .ok (.iconst 1, 1) := by decide +kernel
theorem dL_law_286 : decode cL_law 286 = .ok (.iadd, 1) := by decide +kernel
theorem dL_law_287 : decode cL_law 287 = .ok (.iaload, 1) := by decide +kernel
theorem dL_law_288 : decode cL_law 288 = .ok (.aload_n 0, 1) := by decide +kernel
theorem dL_law_289 : decode cL_law 289 = .ok (.iload_n 3, 1) := by decide +kernel
theorem dL_law_290 : decode cL_law 290 = .ok (.iconst 2, 1) := by decide +kernel
theorem dL_law_291 : decode cL_law 291 = .ok (.iadd, 1) := by decide +kernel
theorem dL_law_292 : decode cL_law 292 = .ok (.iaload, 1) := by decide +kernel
theorem dL_law_293 : decode cL_law 293 = .ok (.invokevirtual 22, 3) := by decide +kernel
theorem dL_law_296 : decode cL_law 296 = .ok (.lcmp, 1) := by decide +kernel
theorem dL_law_297 : decode cL_law 297 = .ok (.ifCond .eq 1245, 3) := by decide +kernel
theorem dL_law_300 : decode cL_law 300 = .ok (.iconst 0, 1) := by decide +kernel
theorem dL_law_301 : decode cL_law 301 = .ok (.ireturn, 1) := by decide +kernel
theorem dL_law_302 : decode cL_law 302 = .ok (.aload_n 1, 1) := by decide +kernel
theorem dL_law_303 : decode cL_law 303 = .ok (.aload_n 0, 1) := by decide +kernel
theorem dL_law_304 : decode cL_law 304 = .ok (.iload_n 3, 1) := by decide +kernel
theorem dL_law_305 : decode cL_law 305 = .ok (.iconst 1, 1) := by decide +kernel
theorem dL_law_306 : decode cL_law 306 = .ok (.iadd, 1) := by decide +kernel
theorem dL_law_307 : decode cL_law 307 = .ok (.iaload, 1) := by decide +kernel
theorem dL_law_308 : decode cL_law 308 = .ok (.invokevirtual 23, 3) := by decide +kernel
theorem dL_law_311 : decode cL_law 311 = .ok (.aload_n 2, 1) := by decide +kernel
theorem dL_law_312 : decode cL_law 312 = .ok (.aload_n 0, 1) := by decide +kernel
theorem dL_law_313 : decode cL_law 313 = .ok (.iload_n 3, 1) := by decide +kernel
theorem dL_law_314 : decode cL_law 314 = .ok (.iconst 1, 1) := by decide +kernel
theorem dL_law_315 : decode cL_law 315 = .ok (.iadd, 1) := by decide +kernel
theorem dL_law_316 : decode cL_law 316 = .ok (.iaload, 1) := by decide +kernel
theorem dL_law_317 : decode cL_law 317 = .ok (.invokevirtual 27, 3) := by decide +kernel
theorem dL_law_320 : decode cL_law 320 = .ok (.if_icmp .eq 1222, 3) := by decide +kernel
theorem dL_law_323 : decode cL_law 323 = .ok (.iconst 0, 1) := by decide +kernel
theorem dL_law_324 : decode cL_law 324 = .ok (.ireturn, 1) := by decide +kernel
theorem dL_law_325 : decode cL_law 325 = .ok (.aload_n 1, 1) := by decide +kernel
theorem dL_law_326 : decode cL_law 326 = .ok (.aload_n 0, 1) := by decide +kernel
theorem dL_law_327 : decode cL_law 327 = .ok (.iload_n 3, 1) := by decide +kernel
theorem dL_law_328 : decode cL_law 328 = .ok (.iconst 1, 1) := by decide +kernel
theorem dL_law_329 : decode cL_law 329 = .ok (.iadd, 1) := by decide +kernel
theorem dL_law_330 : decode cL_law 330 = .ok (.iaload, 1) := by decide +kernel
theorem dL_law_331 : decode cL_law 331 = .ok (.invokevirtual 28, 3) := by decide +kernel
theorem dL_law_334 : decode cL_law 334 = .ok (.aload_n 2, 1) := by decide +kernel
theorem dL_law_335 : decode cL_law 335 = .ok (.aload_n 0, 1) := by decide +kernel
theorem dL_law_336 : decode cL_law 336 = .ok (.iload_n 3, 1) := by decide +kernel
theorem dL_law_337 : decode cL_law 337 = .ok (.iconst 1, 1) := by decide +kernel
theorem dL_law_338 : decode cL_law 338 = .ok (.iadd, 1) := by decide +kernel
theorem dL_law_339 : decode cL_law 339 = .ok (.iaload, 1) := by decide +kernel
theorem dL_law_340 : decode cL_law 340 = .ok (.invokevirtual 31, 3) := by decide +kernel
theorem dL_law_343 : decode cL_law 343 = .ok (.if_icmp .eq 1199, 3) := by decide +kernel
theorem dL_law_346 : decode cL_law 346 = .ok (.iconst 0, 1) := by decide +kernel
theorem dL_law_347 : decode cL_law 347 = .ok (.ireturn, 1) := by decide +kernel
theorem dL_law_348 : decode cL_law 348 = .ok (.aload_n 1, 1) := by decide +kernel
theorem dL_law_349 : decode cL_law 349 = .ok (.invokevirtual 32, 3) := by decide +kernel
theorem dL_law_352 : decode cL_law 352 = .ok (.aload_n 2, 1) := by decide +kernel
theorem dL_law_353 : decode cL_law 353 = .ok (.invokevirtual 36, 3) := by decide +kernel
theorem dL_law_356 : decode cL_law 356 = .ok (.if_icmp .eq 1186, 3) := by decide +kernel
theorem dL_law_359 : decode cL_law 359 = .ok (.iconst 0, 1) := by decide +kernel
theorem dL_law_360 : decode cL_law 360 = .ok (.ireturn, 1) := by decide +kernel
theorem dL_law_361 : decode cL_law 361 = .ok (.aload_n 1, 1) := by decide +kernel
theorem dL_law_362 : decode cL_law 362 = .ok (.aload_n 0, 1) := by decide +kernel
theorem dL_law_363 : decode cL_law 363 = .ok (.iload_n 3, 1) := by decide +kernel
theorem dL_law_364 : decode cL_law 364 = .ok (.iconst 1, 1) := by decide +kernel
theorem dL_law_365 : decode cL_law 365 = .ok (.iadd, 1) := by decide +kernel
theorem dL_law_366 : decode cL_law 366 = .ok (.iaload, 1) := by decide +kernel
theorem dL_law_367 : decode cL_law 367 = .ok (.aload_n 0, 1) := by decide +kernel
theorem dL_law_368 : decode cL_law 368 = .ok (.iload_n 3, 1) := by decide +kernel
theorem dL_law_369 : decode cL_law 369 = .ok (.iconst 2, 1) := by decide +kernel
theorem dL_law_370 : decode cL_law 370 = .ok (.iadd, 1) := by decide +kernel
theorem dL_law_371 : decode cL_law 371 = .ok (.iaload, 1) := by decide +kernel
theorem dL_law_372 : decode cL_law 372 = .ok (.invokevirtual 37, 3) := by decide +kernel
theorem dL_law_375 : decode cL_law 375 = .ok (.aload_n 2, 1) := by decide +kernel
theorem dL_law_376 : decode cL_law 376 = .ok (.aload_n 0, 1) := by decide +kernel
theorem dL_law_377 : decode cL_law 377 = .ok (.iload_n 3, 1) := by decide +kernel
theorem dL_law_378 : decode cL_law 378 = .ok (.iconst 1, 1) := by decide +kernel
theorem dL_law_379 : decode cL_law 379 = .ok (.iadd, 1) := by decide +kernel
theorem dL_law_380 : decode cL_law 380 = .ok (.iaload, 1) := by decide +kernel
theorem dL_law_381 : decode cL_law 381 = .ok (.aload_n 0, 1) := by decide +kernel
theorem dL_law_382 : decode cL_law 382 = .ok (.iload_n 3, 1) := by decide +kernel
theorem dL_law_383 : decode cL_law 383 = .ok (.iconst 2, 1) := by decide +kernel
theorem dL_law_384 : decode cL_law 384 = .ok (.iadd, 1) := by decide +kernel
theorem dL_law_385 : decode cL_law 385 = .ok (.iaload, 1) := by decide +kernel
theorem dL_law_386 : decode cL_law 386 = .ok (.invokevirtual 40, 3) := by decide +kernel
theorem dL_law_389 : decode cL_law 389 = .ok (.lcmp, 1) := by decide +kernel
theorem dL_law_390 : decode cL_law 390 = .ok (.ifCond .eq 1152, 3) := by decide +kernel
theorem dL_law_393 : decode cL_law 393 = .ok (.iconst 0, 1) := by decide +kernel
theorem dL_law_394 : decode cL_law 394 = .ok (.ireturn, 1) := by decide +kernel
theorem dL_law_395 : decode cL_law 395 = .ok (.aload_n 1, 1) := by decide +kernel
theorem dL_law_396 : decode cL_law 396 = .ok (.aload_n 0, 1) := by decide +kernel
theorem dL_law_397 : decode cL_law 397 = .ok (.iload_n 3, 1) := by decide +kernel
theorem dL_law_398 : decode cL_law 398 = .ok (.iconst 1, 1) := by decide +kernel
theorem dL_law_399 : decode cL_law 399 = .ok (.iadd, 1) := by decide +kernel
theorem dL_law_400 : decode cL_law 400 = .ok (.iaload, 1) := by decide +kernel
theorem dL_law_401 : decode cL_law 401 = .ok (.aload_n 0, 1) := by decide +kernel
theorem dL_law_402 : decode cL_law 402 = .ok (.iload_n 3, 1) := by decide +kernel
theorem dL_law_403 : decode cL_law 403 = .ok (.iconst 2, 1) := by decide +kernel
theorem dL_law_404 : decode cL_law 404 = .ok (.iadd, 1) := by decide +kernel
theorem dL_law_405 : decode cL_law 405 = .ok (.iaload, 1) := by decide +kernel
theorem dL_law_406 : decode cL_law 406 = .ok (.invokevirtual 41, 3) := by decide +kernel
theorem dL_law_409 : decode cL_law 409 = .ok (.aload_n 2, 1) := by decide +kernel
theorem dL_law_410 : decode cL_law 410 = .ok (.aload_n 0, 1) := by decide +kernel
theorem dL_law_411 : decode cL_law 411 = .ok (.iload_n 3, 1) := by decide +kernel
theorem dL_law_412 : decode cL_law 412 = .ok (.iconst 1, 1) := by decide +kernel
theorem dL_law_413 : decode cL_law 413 = .ok (.iadd, 1) := by decide +kernel
theorem dL_law_414 : decode cL_law 414 = .ok (.iaload, 1) := by decide +kernel
theorem dL_law_415 : decode cL_law 415 = .ok (.aload_n 0, 1) := by decide +kernel
theorem dL_law_416 : decode cL_law 416 = .ok (.iload_n 3, 1) := by decide +kernel
theorem dL_law_417 : decode cL_law 417 = .ok (.iconst 2, 1) := by decide +kernel
theorem dL_law_418 : decode cL_law 418 = .ok (.iadd, 1) := by decide +kernel
theorem dL_law_419 : decode cL_law 419 = .ok (.iaload, 1) := by decide +kernel
theorem dL_law_420 : decode cL_law 420 = .ok (.invokevirtual 45, 3) := by decide +kernel
theorem dL_law_423 : decode cL_law 423 = .ok (.if_icmp .eq 1119, 3) := by decide +kernel
theorem dL_law_426 : decode cL_law 426 = .ok (.iconst 0, 1) := by decide +kernel
theorem dL_law_427 : decode cL_law 427 = .ok (.ireturn, 1) := by decide +kernel
theorem dL_law_428 : decode cL_law 428 = .ok (.aload_n 1, 1) := by decide +kernel
