theorem dX0_init_0 : decode cX0_init 0 = .ok (.aload_n 0, 1) := by decide +kernel
theorem dX0_init_1 : decode cX0_init 1 = .ok (.invokespecial 3, 3) := by decide +kernel
theorem dX0_init_4 : decode cX0_init 4 = .ok (.aload_n 0, 1) := by decide +kernel
theorem dX0_init_5 : decode cX0_init 5 = .ok (.bipush 7, 2) := by decide +kernel
theorem dX0_init_7 : decode cX0_init 7 = .ok (.bipush 7, 2) := by decide +kernel
theorem dX0_init_9 : decode cX0_init 9 = .ok (.multianewarray 9 2, 4) := by decide +kernel
theorem dX0_init_13 : decode cX0_init 13 = .ok (.putfield 11, 3) := by decide +kernel
theorem dX0_init_16 : decode cX0_init 16 = .ok (.aload_n 0, 1) := by decide +kernel
theorem dX0_init_17 : decode cX0_init 17 = .ok (.bipush 7, 2) := by decide +kernel
theorem dX0_init_19 : decode cX0_init 19 = .ok (.newarray .long, 2) := by decide +kernel
theorem dX0_init_21 : decode cX0_init 21 = .ok (.putfield 16, 3) := by decide +kernel
theorem dX0_init_24 : decode cX0_init 24 = .ok (.return_, 1) := by decide +kernel
theorem dX0_build_0 : decode cX0_build 0 = .ok (.aload_n 0, 1) := by decide +kernel
theorem dX0_build_1 : decode cX0_build 1 = .ok (.iconst 0, 1) := by decide +kernel
theorem dX0_build_2 : decode cX0_build 2 = .ok (.putfield 20, 3) := by decide +kernel
theorem dX0_build_5 : decode cX0_build 5 = .ok (.aload_n 0, 1) := by decide +kernel
theorem dX0_build_6 : decode cX0_build 6 = .ok (.iconst 0, 1) := by decide +kernel
theorem dX0_build_7 : decode cX0_build 7 = .ok (.putfield 24, 3) := by decide +kernel
theorem dX0_build_10 : decode cX0_build 10 = .ok (.aload_n 1, 1) := by decide +kernel
theorem dX0_build_11 : decode cX0_build 11 = .ok (.invokestatic 28, 3) := by decide +kernel
theorem dX0_build_14 : decode cX0_build 14 = .ok (.iconst 1, 1) := by decide +kernel
theorem dX0_build_15 : decode cX0_build 15 = .ok (.if_icmp .ge 5, 3) := by decide +kernel
theorem dX0_build_18 : decode cX0_build 18 = .ok (.iconst 0, 1) := by decide +kernel
theorem dX0_build_19 : decode cX0_build 19 = .ok (.ireturn, 1) := by decide +kernel
theorem dX0_build_20 : decode cX0_build 20 = .ok (.aload_n 0, 1) := by decide +kernel
theorem dX0_build_21 : decode cX0_build 21 = .ok (.aload_n 1, 1) := by decide +kernel
theorem dX0_build_22 : decode cX0_build 22 = .ok (.iconst 1, 1) := by decide +kernel
theorem dX0_build_23 : decode cX0_build 23 = .ok (.invokevirtual 34, 3) := by decide +kernel
theorem dX0_build_26 : decode cX0_build 26 = .ok (.iconst 0, 1) := by decide +kernel
theorem dX0_build_27 : decode cX0_build 27 = .ok (.istore_n 2, 1) := by decide +kernel
theorem dX0_build_28 : decode cX0_build 28 = .ok (.iload_n 2, 1) := by decide +kernel
theorem dX0_build_29 : decode cX0_build 29 = .ok (.bipush 7, 2) := by decide +kernel
theorem dX0_build_31 : decode cX0_build 31 = .ok (.if_icmp .ge 37, 3) := by decide +kernel
theorem dX0_build_34 : decode cX0_build 34 = .ok (.aload_n 0, 1) := by decide +kernel
theorem dX0_build_35 : decode cX0_build 35 = .ok (.getfield 16, 3) := by decide +kernel
theorem dX0_build_38 : decode cX0_build 38 = .ok (.iload_n 2, 1) := by decide +kernel
theorem dX0_build_39 : decode cX0_build 39 = .ok (.iload_n 2, 1) := by decide +kernel
theorem dX0_build_40 : decode cX0_build 40 = .ok (.iconst 1, 1) := by decide +kernel
theorem dX0_build_41 : decode cX0_build 41 = .ok (.iadd, 1) := by decide +kernel
theorem dX0_build_42 : decode cX0_build 42 = .ok (.bipush 7, 2) := by decide +kernel
theorem dX0_build_44 : decode cX0_build 44 = .ok (.if_icmp .ge 16, 3) := by decide +kernel
theorem dX0_build_47 : decode cX0_build 47 = .ok (.iload_n 2, 1) := by decide +kernel
theorem dX0_build_48 : decode cX0_build 48 = .ok (.iconst 1, 1) := by decide +kernel
theorem dX0_build_49 : decode cX0_build 49 = .ok (.iadd, 1) := by decide +kernel
theorem dX0_build_50 : decode cX0_build 50 = .ok (.i2l, 1) := by decide +kernel
theorem dX0_build_51 : decode cX0_build 51 = .ok (.aload_n 1, 1) := by decide +kernel
theorem dX0_build_52 : decode cX0_build 52 = .ok (.iload_n 2, 1) := by decide +kernel
theorem dX0_build_53 : decode cX0_build 53 = .ok (.iconst 1, 1) := by decide +kernel
theorem dX0_build_54 : decode cX0_build 54 = .ok (.iadd, 1) := by decide +kernel
theorem dX0_build_55 : decode cX0_build 55 = .ok (.laload, 1) := by decide +kernel
theorem dX0_build_56 : decode cX0_build 56 = .ok (.lmul, 1) := by decide +kernel
theorem dX0_build_57 : decode cX0_build 57 = .ok (.goto 4, 3) := by decide +kernel
theorem dX0_build_60 : decode cX0_build 60 = .ok (.lconst 0, 1) := by decide +kernel
theorem dX0_build_61 : decode cX0_build 61 = .ok (.lastore, 1) := by decide +kernel
theorem dX0_build_62 : decode cX0_build 62 = .ok (.iinc 2 1, 3) := by decide +kernel
theorem dX0_build_65 : decode cX0_build 65 = .ok (.goto (-37), 3) := by decide +kernel
theorem dX0_build_68 : decode cX0_build 68 = .ok (.aload_n 0, 1) := by decide +kernel
theorem dX0_build_69 : decode cX0_build 69 = .ok (.aload_n 0, 1) := by decide +kernel
theorem dX0_build_70 : decode cX0_build 70 = .ok (.getfield 16, 3) := by decide +kernel
theorem dX0_build_73 : decode cX0_build 73 = .ok (.iconst 1, 1) := by decide +kernel
theorem dX0_build_74 : decode cX0_build 74 = .ok (.invokevirtual 34, 3) := by decide +kernel
theorem dX0_build_77 : decode cX0_build 77 = .ok (.iconst 2, 1) := by decide +kernel
theorem dX0_build_78 : decode cX0_build 78 = .ok (.istore_n 2, 1) := by decide +kernel
theorem dX0_build_79 : decode cX0_build 79 = .ok (.iload_n 2, 1) := by decide +kernel
theorem dX0_build_80 : decode cX0_build 80 = .ok (.bipush 7, 2) := by decide +kernel
theorem dX0_build_82 : decode cX0_build 82 = .ok (.if_icmp .ge 57, 3) := by decide +kernel
theorem dX0_build_85 : decode cX0_build 85 = .ok (.aload_n 0, 1) := by decide +kernel
theorem dX0_build_86 : decode cX0_build 86 = .ok (.aload_n 0, 1) := by decide +kernel
theorem dX0_build_87 : decode cX0_build 87 = .ok (.getfield 11, 3) := by decide +kernel
theorem dX0_build_90 : decode cX0_build 90 = .ok (.iload_n 2, 1) := by decide +kernel
theorem dX0_build_91 : decode cX0_build 91 = .ok (.iconst 2, 1) := by decide +kernel
theorem dX0_build_92 : decode cX0_build 92 = .ok (.isub, 1) := by decide +kernel
theorem dX0_build_93 : decode cX0_build 93 = .ok (.aaload, 1) := by decide +kernel
theorem dX0_build_94 : decode cX0_build 94 = .ok (.aload_n 0, 1) := by decide +kernel
theorem dX0_build_95 : decode cX0_build 95 = .ok (.getfield 11, 3) := by decide +kernel
theorem dX0_build_98 : decode cX0_build 98 = .ok (.iload_n 2, 1) := by decide +kernel
theorem dX0_build_99 : decode cX0_build 99 = .ok (.iconst 1, 1) := by decide +kernel
theorem dX0_build_100 : decode cX0_build 100 = .ok (.isub, 1) := by decide +kernel
theorem dX0_build_101 : decode cX0_build 101 = .ok (.aaload, 1) := by decide +kernel
theorem dX0_build_102 : decode cX0_build 102 = .ok (.invokevirtual 38, 3) := by decide +kernel
theorem dX0_build_105 : decode cX0_build 105 = .ok (.aload_n 0, 1) := by decide +kernel
theorem dX0_build_106 : decode cX0_build 106 = .ok (.getfield 24, 3) := by decide +kernel
theorem dX0_build_109 : decode cX0_build 109 = .ok (.ifCond .ne 13, 3) := by decide +kernel
theorem dX0_build_112 : decode cX0_build 112 = .ok (.aload_n 0, 1) := by decide +kernel
theorem dX0_build_113 : decode cX0_build 113 = .ok (.getfield 16, 3) := by decide +kernel
theorem dX0_build_116 : decode cX0_build 116 = .ok (.invokestatic 28, 3) := by decide +kernel
theorem dX0_build_119 : decode cX0_build 119 = .ok (.ifCond .ge 5, 3) := by decide +kernel
theorem dX0_build_122 : decode cX0_build 122 = .ok (.iconst 1, 1) := by decide +kernel
theorem dX0_build_123 : decode cX0_build 123 = .ok (.ireturn, 1) := by decide +kernel
theorem dX0_build_124 : decode cX0_build 124 = .ok (.aload_n 0, 1) := by decide +kernel
theorem dX0_build_125 : decode cX0_build 125 = .ok (.aload_n 0, 1) := by decide +kernel
theorem dX0_build_126 : decode cX0_build 126 = .ok (.getfield 16, 3) := by decide +kernel
theorem dX0_build_129 : decode cX0_build 129 = .ok (.iconst (-1), 1) := by decide +kernel
theorem dX0_build_130 : decode cX0_build 130 = .ok (.invokevirtual 34, 3) := by decide +kernel
theorem dX0_build_133 : decode cX0_build 133 = .ok (.iinc 2 1, 3) := by decide +kernel
theorem dX0_build_136 : decode cX0_build 136 = .ok (.goto (-57), 3) := by decide +kernel
theorem dX0_build_139 : decode cX0_build 139 = .ok (.iconst 1, 1) := by decide +kernel
theorem dX0_build_140 : decode cX0_build 140 = .ok (.ireturn, 1) := by decide +kernel
theorem dX0_append_0 : decode cX0_append 0 = .ok (.iconst 0, 1) := by decide +kernel
theorem dX0_append_1 : decode cX0_append 1 = .ok (.istore_n 3, 1) := by decide +kernel
theorem dX0_append_2 : decode cX0_append 2 = .ok (.iload_n 3, 1) := by decide +kernel
theorem dX0_append_3 : decode cX0_append 3 = .ok (.bipush 7, 2) := by decide +kernel
theorem dX0_append_5 : decode cX0_append 5 = .ok (.if_icmp .ge 26, 3) := by decide +kernel
theorem dX0_append_8 : decode cX0_append 8 = .ok (.aload_n 0, 1) := by decide +kernel
theorem dX0_append_9 : decode cX0_append 9 = .ok (.getfield 11, 3) := by decide +kernel
theorem dX0_append_12 : decode cX0_append 12 = .ok (.aload_n 0, 1) := by decide +kernel
theorem dX0_append_13 : decode cX0_append 13 = .ok (.getfield 20, 3) := by decide +kernel
theorem dX0_append_16 : decode cX0_append 16 = .ok (.aaload, 1) := by decide +kernel
theorem dX0_append_17 : decode cX0_append 17 = .ok (.iload_n 3, 1) := by decide +kernel
theorem dX0_append_18 : decode cX0_append 18 = .ok (.iload_n 2, 1) := by decide +kernel
theorem dX0_append_19 : decode cX0_append 19 = .ok (.i2l, 1) := by decide +kernel
theorem dX0_append_20 : decode cX0_append 20 = .ok (.aload_n 1, 1) := by decide +kernel
theorem dX0_append_21 : decode cX0_append 21 = .ok (.iload_n 3, 1) := by decide +kernel
theorem dX0_append_22 : decode cX0_append 22 = .ok (.laload, 1) := by decide +kernel
theorem dX0_append_23 : decode cX0_append 23 = .ok (.lmul, 1) := by decide +kernel
theorem dX0_append_24 : decode cX0_append 24 = .ok (.lastore, 1) := by decide +kernel
theorem dX0_append_25 : decode cX0_append 25 = .ok (.iinc 3 1, 3) := by decide +kernel
theorem dX0_append_28 : decode cX0_append 28 = .ok (.goto (-26), 3) := by decide +kernel
theorem dX0_append_31 : decode cX0_append 31 = .ok (.aload_n 0, 1) := by decide +kernel
theorem dX0_append_32 : decode cX0_append 32 = .ok (.getfield 11, 3) := by decide +kernel
theorem dX0_append_35 : decode cX0_append 35 = .ok (.aload_n 0, 1) := by decide +kernel
theorem dX0_append_36 : decode cX0_append 36 = .ok (.getfield 20, 3) := by decide +kernel
theorem dX0_append_39 : decode cX0_append 39 = .ok (.aaload, 1) := by decide +kernel
theorem dX0_append_40 : decode cX0_append 40 = .ok (.invokestatic 42, 3) := by decide +kernel
theorem dX0_append_43 : decode cX0_append 43 = .ok (.aload_n 0, 1) := by decide +kernel
theorem dX0_append_44 : decode cX0_append 44 = .ok (.dup, 1) := by decide +kernel
theorem dX0_append_45 : decode cX0_append 45 = .ok (.getfield 20, 3) := by decide +kernel
theorem dX0_append_48 : decode cX0_append 48 = .ok (.iconst 1, 1) := by decide +kernel
theorem dX0_append_49 : decode cX0_append 49 = .ok (.iadd, 1) := by decide +kernel
theorem dX0_append_50 : decode cX0_append 50 = .ok (.putfield 20, 3) := by decide +kernel
theorem dX0_append_53 : decode cX0_append 53 = .ok (.return_, 1) := by decide +kernel
theorem dX0_divide_0 : decode cX0_divide 0 = .ok (.aload_n 1, 1) := by decide +kernel
theorem dX0_divide_1 : decode cX0_divide 1 = .ok (.iconst 0, 1) := by decide +kernel
theorem dX0_divide_2 : decode cX0_divide 2 = .ok (.aload_n 0, 1) := by decide +kernel
theorem dX0_divide_3 : decode cX0_divide 3 = .ok (.getfield 16, 3) := by decide +kernel
theorem dX0_divide_6 : decode cX0_divide 6 = .ok (.iconst 0, 1) := by decide +kernel
theorem dX0_divide_7 : decode cX0_divide 7 = .ok (.bipush 7, 2) := by decide +kernel
theorem dX0_divide_9 : decode cX0_divide 9 = .ok (.invokestatic 46, 3) := by decide +kernel
theorem dX0_divide_12 : decode cX0_divide 12 = .ok (.aload_n 2, 1) := by decide +kernel
theorem dX0_divide_13 : decode cX0_divide 13 = .ok (.invokestatic 28, 3) := by decide +kernel
theorem dX0_divide_16 : decode cX0_divide 16 = .ok (.istore_n 3, 1) := by decide +kernel
theorem dX0_divide_17 : decode cX0_divide 17 = .ok (.iconst 0, 1) := by decide +kernel
theorem dX0_divide_18 : decode cX0_divide 18 = .ok (.istore 4, 2) := by decide +kernel
theorem dX0_divide_20 : decode cX0_divide 20 = .ok (.iload 4, 2) := by decide +kernel
theorem dX0_divide_22 : decode cX0_divide 22 = .ok (.bipush 7, 2) := by decide +kernel
theorem dX0_divide_24 : decode cX0_divide 24 = .ok (.if_icmp .ge 55, 3) := by decide +kernel
theorem dX0_divide_27 : decode cX0_divide 27 = .ok (.aload_n 0, 1) := by decide +kernel
theorem dX0_divide_28 : decode cX0_divide 28 = .ok (.getfield 24, 3) := by decide +kernel
theorem dX0_divide_31 : decode cX0_divide 31 = .ok (.ifCond .ne 48, 3) := by decide +kernel
theorem dX0_divide_34 : decode cX0_divide 34 = .ok (.aload_n 0, 1) := by decide +kernel
theorem dX0_divide_35 : decode cX0_divide 35 = .ok (.getfield 16, 3) := by decide +kernel
theorem dX0_divide_38 : decode cX0_divide 38 = .ok (.invokestatic 28, 3) := by decide +kernel
theorem dX0_divide_41 : decode cX0_divide 41 = .ok (.istore 5, 2) := by decide +kernel
theorem dX0_divide_43 : decode cX0_divide 43 = .ok (.iload_n 3, 1) := by decide +kernel
theorem dX0_divide_44 : decode cX0_divide 44 = .ok (.ifCond .lt 9, 3) := by decide +kernel
theorem dX0_divide_47 : decode cX0_divide 47 = .ok (.iload 5, 2) := by decide +kernel
theorem dX0_divide_49 : decode cX0_divide 49 = .ok (.iload_n 3, 1) := by decide +kernel
theorem dX0_divide_50 : decode cX0_divide 50 = .ok (.if_icmp .ge 4, 3) := by decide +kernel
theorem dX0_divide_53 : decode cX0_divide 53 = .ok (.return_, 1) := by decide +kernel
theorem dX0_divide_54 : decode cX0_divide 54 = .ok (.aload_n 0, 1) := by decide +kernel
theorem dX0_divide_55 : decode cX0_divide 55 = .ok (.iload 5, 2) := by decide +kernel
theorem dX0_divide_57 : decode cX0_divide 57 = .ok (.aload_n 2, 1) := by decide +kernel
theorem dX0_divide_58 : decode cX0_divide 58 = .ok (.iload_n 3, 1) := by decide +kernel
theorem dX0_divide_59 : decode cX0_divide 59 = .ok (.invokevirtual 52, 3) := by decide +kernel
theorem dX0_divide_62 : decode cX0_divide 62 = .ok (.aload_n 0, 1) := by decide +kernel
theorem dX0_divide_63 : decode cX0_divide 63 = .ok (.aload_n 0, 1) := by decide +kernel
theorem dX0_divide_64 : decode cX0_divide 64 = .ok (.getfield 16, 3) := by decide +kernel
theorem dX0_divide_67 : decode cX0_divide 67 = .ok (.invokestatic 56, 3) := by decide +kernel
theorem dX0_divide_70 : decode cX0_divide 70 = .ok (.putfield 24, 3) := by decide +kernel
theorem dX0_divide_73 : decode cX0_divide 73 = .ok (.iinc 4 1, 3) := by decide +kernel
theorem dX0_divide_76 : decode cX0_divide 76 = .ok (.goto (-56), 3) := by decide +kernel
theorem dX0_divide_79 : decode cX0_divide 79 = .ok (.return_, 1) := by decide +kernel
theorem dX0_lower_0 : decode cX0_lower 0 = .ok (.aload_n 0, 1) := by decide +kernel
theorem dX0_lower_1 : decode cX0_lower 1 = .ok (.getfield 16, 3) := by decide +kernel
theorem dX0_lower_4 : decode cX0_lower 4 = .ok (.iload_n 1, 1) := by decide +kernel
theorem dX0_lower_5 : decode cX0_lower 5 = .ok (.laload, 1) := by decide +kernel
theorem dX0_lower_6 : decode cX0_lower 6 = .ok (.lstore 4, 2) := by decide +kernel
theorem dX0_lower_8 : decode cX0_lower 8 = .ok (.iconst 0, 1) := by decide +kernel
theorem dX0_lower_9 : decode cX0_lower 9 = .ok (.istore 6, 2) := by decide +kernel
theorem dX0_lower_11 : decode cX0_lower 11 = .ok (.iload 6, 2) := by decide +kernel
theorem dX0_lower_13 : decode cX0_lower 13 = .ok (.bipush 7, 2) := by decide +kernel
theorem dX0_lower_15 : decode cX0_lower 15 = .ok (.if_icmp .ge 32, 3) := by decide +kernel
theorem dX0_lower_18 : decode cX0_lower 18 = .ok (.aload_n 0, 1) := by decide +kernel
theorem dX0_lower_19 : decode cX0_lower 19 = .ok (.getfield 16, 3) := by decide +kernel
theorem dX0_lower_22 : decode cX0_lower 22 = .ok (.iload 6, 2) := by decide +kernel
theorem dX0_lower_24 : decode cX0_lower 24 = .ok (.aload_n 0, 1) := by decide +kernel
theorem dX0_lower_25 : decode cX0_lower 25 = .ok (.getfield 16, 3) := by decide +kernel
theorem dX0_lower_28 : decode cX0_lower 28 = .ok (.iload 6, 2) := by decide +kernel
theorem dX0_lower_30 : decode cX0_lower 30 = .ok (.laload, 1) := by decide +kernel
theorem dX0_lower_31 : decode cX0_lower 31 = .ok (.aload_n 2, 1) := by decide +kernel
theorem dX0_lower_32 : decode cX0_lower 32 = .ok (.iload_n 3, 1) := by decide +kernel
theorem dX0_lower_33 : decode cX0_lower 33 = .ok (.laload, 1) := by decide +kernel
theorem dX0_lower_34 : decode cX0_lower 34 = .ok (.invokestatic 60, 3) := by decide +kernel
theorem dX0_lower_37 : decode cX0_lower 37 = .ok (.invokestatic 66, 3) := by decide +kernel
theorem dX0_lower_40 : decode cX0_lower 40 = .ok (.lastore, 1) := by decide +kernel
theorem dX0_lower_41 : decode cX0_lower 41 = .ok (.iinc 6 1, 3) := by decide +kernel
theorem dX0_lower_44 : decode cX0_lower 44 = .ok (.goto (-33), 3) := by decide +kernel
theorem dX0_lower_47 : decode cX0_lower 47 = .ok (.iload_n 1, 1) := by decide +kernel
theorem dX0_lower_48 : decode cX0_lower 48 = .ok (.iload_n 3, 1) := by decide +kernel
theorem dX0_lower_49 : decode cX0_lower 49 = .ok (.isub, 1) := by decide +kernel
theorem dX0_lower_50 : decode cX0_lower 50 = .ok (.istore 6, 2) := by decide +kernel
theorem dX0_lower_52 : decode cX0_lower 52 = .ok (.iconst 0, 1) := by decide +kernel
theorem dX0_lower_53 : decode cX0_lower 53 = .ok (.istore 7, 2) := by decide +kernel
theorem dX0_lower_55 : decode cX0_lower 55 = .ok (.iload 7, 2) := by decide +kernel
theorem dX0_lower_57 : decode cX0_lower 57 = .ok (.iload_n 3, 1) := by decide +kernel
theorem dX0_lower_58 : decode cX0_lower 58 = .ok (.if_icmp .gt 59, 3) := by decide +kernel
theorem dX0_lower_61 : decode cX0_lower 61 = .ok (.lload 4, 2) := by decide +kernel
theorem dX0_lower_63 : decode cX0_lower 63 = .ok (.aload_n 2, 1) := by decide +kernel
theorem dX0_lower_64 : decode cX0_lower 64 = .ok (.iload 7, 2) := by decide +kernel
theorem dX0_lower_66 : decode cX0_lower 66 = .ok (.laload, 1) := by decide +kernel
theorem dX0_lower_67 : decode cX0_lower 67 = .ok (.invokestatic 66, 3) := by decide +kernel
theorem dX0_lower_70 : decode cX0_lower 70 = .ok (.lstore 8, 2) := by decide +kernel
theorem dX0_lower_72 : decode cX0_lower 72 = .ok (.aload_n 0, 1) := by decide +kernel
theorem dX0_lower_73 : decode cX0_lower 73 = .ok (.getfield 16, 3) := by decide +kernel
theorem dX0_lower_76 : decode cX0_lower 76 = .ok (.iload 7, 2) := by decide +kernel
theorem dX0_lower_78 : decode cX0_lower 78 = .ok (.iload 6, 2) := by decide +kernel
theorem dX0_lower_80 : decode cX0_lower 80 = .ok (.iadd, 1) := by decide +kernel
theorem dX0_lower_81 : decode cX0_lower 81 = .ok (.aload_n 0, 1) := by decide +kernel
theorem dX0_lower_82 : decode cX0_lower 82 = .ok (.getfield 16, 3) := by decide +kernel
theorem dX0_lower_85 : decode cX0_lower 85 = .ok (.iload 7, 2) := by decide +kernel
theorem dX0_lower_87 : decode cX0_lower 87 = .ok (.iload 6, 2) := by decide +kernel
theorem dX0_lower_89 : decode cX0_lower 89 = .ok (.iadd, 1) := by decide +kernel
theorem dX0_lower_90 : decode cX0_lower 90 = .ok (.laload, 1) := by decide +kernel
theorem dX0_lower_91 : decode cX0_lower 91 = .ok (.aload_n 2, 1) := by decide +kernel
theorem dX0_lower_92 : decode cX0_lower 92 = .ok (.iload_n 3, 1) := by decide +kernel
theorem dX0_lower_93 : decode cX0_lower 93 = .ok (.laload, 1) := by decide +kernel
theorem dX0_lower_94 : decode cX0_lower 94 = .ok (.lconst 0, 1) := by decide +kernel
theorem dX0_lower_95 : decode cX0_lower 95 = .ok (.lcmp, 1) := by decide +kernel
theorem dX0_lower_96 : decode cX0_lower 96 = .ok (.ifCond .ge 9, 3) := by decide +kernel
theorem dX0_lower_99 : decode cX0_lower 99 = .ok (.lload 8, 2) := by decide +kernel
theorem dX0_lower_101 : decode cX0_lower 101 = .ok (.lneg, 1) := by decide +kernel
theorem dX0_lower_102 : decode cX0_lower 102 = .ok (.goto 5, 3) := by decide +kernel
theorem dX0_lower_105 : decode cX0_lower 105 = .ok (.lload 8, 2) := by decide +kernel
theorem dX0_lower_107 : decode cX0_lower 107 = .ok (.invokestatic 72, 3) := by decide +kernel
theorem dX0_lower_110 : decode cX0_lower 110 = .ok (.lastore, 1) := by decide +kernel
theorem dX0_lower_111 : decode cX0_lower 111 = .ok (.iinc 7 1, 3) := by decide +kernel
theorem dX0_lower_114 : decode cX0_lower 114 = .ok (.goto (-59), 3) := by decide +kernel
theorem dX0_lower_117 : decode cX0_lower 117 = .ok (.return_, 1) := by decide +kernel
theorem dX0_coefficient_0 : decode cX0_coefficient 0 = .ok (.aload_n 0, 1) := by decide +kernel
theorem dX0_coefficient_1 : decode cX0_coefficient 1 = .ok (.getfield 11, 3) := by decide +kernel
theorem dX0_coefficient_4 : decode cX0_coefficient 4 = .ok (.iload_n 1, 1) := by decide +kernel
theorem dX0_coefficient_5 : decode cX0_coefficient 5 = .ok (.aaload, 1) := by decide +kernel
theorem dX0_coefficient_6 : decode cX0_coefficient 6 = .ok (.iload_n 2, 1) := by decide +kernel
theorem dX0_coefficient_7 : decode cX0_coefficient 7 = .ok (.laload, 1) := by decide +kernel
theorem dX0_coefficient_8 : decode cX0_coefficient 8 = .ok (.lreturn, 1) := by decide +kernel
theorem dX0_changesAt_0 : decode cX0_changesAt 0 = .ok (.iconst 0, 1) := by decide +kernel
theorem dX0_changesAt_1 : decode cX0_changesAt 1 = .ok (.istore_n 2, 1) := by decide +kernel
theorem dX0_changesAt_2 : decode cX0_changesAt 2 = .ok (.lconst 0, 1) := by decide +kernel
theorem dX0_changesAt_3 : decode cX0_changesAt 3 = .ok (.lstore_n 3, 1) := by decide +kernel
theorem dX0_changesAt_4 : decode cX0_changesAt 4 = .ok (.iconst 0, 1) := by decide +kernel
theorem dX0_changesAt_5 : decode cX0_changesAt 5 = .ok (.istore 5, 2) := by decide +kernel
theorem dX0_changesAt_7 : decode cX0_changesAt 7 = .ok (.iload 5, 2) := by decide +kernel
theorem dX0_changesAt_9 : decode cX0_changesAt 9 = .ok (.aload_n 0, 1) := by decide +kernel
theorem dX0_changesAt_10 : decode cX0_changesAt 10 = .ok (.getfield 20, 3) := by decide +kernel
theorem dX0_changesAt_13 : decode cX0_changesAt 13 = .ok (.if_icmp .ge 91, 3) := by decide +kernel
theorem dX0_changesAt_16 : decode cX0_changesAt 16 = .ok (.aload_n 0, 1) := by decide +kernel
theorem dX0_changesAt_17 : decode cX0_changesAt 17 = .ok (.getfield 24, 3) := by decide +kernel
theorem dX0_changesAt_20 : decode cX0_changesAt 20 = .ok (.ifCond .ne 84, 3) := by decide +kernel
theorem dX0_changesAt_23 : decode cX0_changesAt 23 = .ok (.aload_n 0, 1) := by decide +kernel
theorem dX0_changesAt_24 : decode cX0_changesAt 24 = .ok (.getfield 11, 3) := by decide +kernel
theorem dX0_changesAt_27 : decode cX0_changesAt 27 = .ok (.iload 5, 2) := by decide +kernel
theorem dX0_changesAt_29 : decode cX0_changesAt 29 = .ok (.aaload, 1) := by decide +kernel
theorem dX0_changesAt_30 : decode cX0_changesAt 30 = .ok (.iload_n 1, 1) := by decide +kernel
theorem dX0_changesAt_31 : decode cX0_changesAt 31 = .ok (.invokestatic 75, 3) := by decide +kernel
theorem dX0_changesAt_34 : decode cX0_changesAt 34 = .ok (.lstore 6, 2) := by decide +kernel
theorem dX0_changesAt_36 : decode cX0_changesAt 36 = .ok (.lload 6, 2) := by decide +kernel
theorem dX0_changesAt_38 : decode cX0_changesAt 38 = .ok (.ldc2_w 79, 3) := by decide +kernel
theorem dX0_changesAt_41 : decode cX0_changesAt 41 = .ok (.lcmp, 1) := by decide +kernel
theorem dX0_changesAt_42 : decode cX0_changesAt 42 = .ok (.ifCond .ne 6, 3) := by decide +kernel
theorem dX0_changesAt_45 : decode cX0_changesAt 45 = .ok (.bipush (-7), 2) := by decide +kernel
theorem dX0_changesAt_47 : decode cX0_changesAt 47 = .ok (.ireturn, 1) := by decide +kernel
theorem dX0_changesAt_48 : decode cX0_changesAt 48 = .ok (.lload 6, 2) := by decide +kernel
theorem dX0_changesAt_50 : decode cX0_changesAt 50 = .ok (.lconst 0, 1) := by decide +kernel
theorem dX0_changesAt_51 : decode cX0_changesAt 51 = .ok (.lcmp, 1) := by decide +kernel
theorem dX0_changesAt_52 : decode cX0_changesAt 52 = .ok (.ifCond .eq 46, 3) := by decide +kernel
theorem dX0_changesAt_55 : decode cX0_changesAt 55 = .ok (.iload_n 2, 1) := by decide +kernel
theorem dX0_changesAt_56 : decode cX0_changesAt 56 = .ok (.lload_n 3, 1) := by decide +kernel
theorem dX0_changesAt_57 : decode cX0_changesAt 57 = .ok (.lconst 0, 1) := by decide +kernel
theorem dX0_changesAt_58 : decode cX0_changesAt 58 = .ok (.lcmp, 1) := by decide +kernel
theorem dX0_changesAt_59 : decode cX0_changesAt 59 = .ok (.ifCond .eq 33, 3) := by decide +kernel
theorem dX0_changesAt_62 : decode cX0_changesAt 62 = .ok (.lload_n 3, 1) := by decide +kernel
theorem dX0_changesAt_63 : decode cX0_changesAt 63 = .ok (.lconst 0, 1) := by decide +kernel
theorem dX0_changesAt_64 : decode cX0_changesAt 64 = .ok (.lcmp, 1) := by decide +kernel
theorem dX0_changesAt_65 : decode cX0_changesAt 65 = .ok (.ifCond .ge 7, 3) := by decide +kernel
theorem dX0_changesAt_68 : decode cX0_changesAt 68 = .ok (.iconst 1, 1) := by decide +kernel
theorem dX0_changesAt_69 : decode cX0_changesAt 69 = .ok (.goto 4, 3) := by decide +kernel
theorem dX0_changesAt_72 : decode cX0_changesAt 72 = .ok (.iconst 0, 1) := by decide +kernel
theorem dX0_changesAt_73 : decode cX0_changesAt 73 = .ok (.lload 6, 2) := by decide +kernel
theorem dX0_changesAt_75 : decode cX0_changesAt 75 = .ok (.lconst 0, 1) := by decide +kernel
theorem dX0_changesAt_76 : decode cX0_changesAt 76 = .ok (.lcmp, 1) := by decide +kernel
theorem dX0_changesAt_77 : decode cX0_changesAt 77 = .ok (.ifCond .ge 7, 3) := by decide +kernel
theorem dX0_changesAt_80 : decode cX0_changesAt 80 = .ok (.iconst 1, 1) := by decide +kernel
theorem dX0_changesAt_81 : decode cX0_changesAt 81 = .ok (.goto 4, 3) := by decide +kernel
theorem dX0_changesAt_84 : decode cX0_changesAt 84 = .ok (.iconst 0, 1) := by decide +kernel
theorem dX0_changesAt_85 : decode cX0_changesAt 85 = .ok (.if_icmp .eq 7, 3) := by decide +kernel
theorem dX0_changesAt_88 : decode cX0_changesAt 88 = .ok (.iconst 1, 1) := by decide +kernel
theorem dX0_changesAt_89 : decode cX0_changesAt 89 = .ok (.goto 4, 3) := by decide +kernel
theorem dX0_changesAt_92 : decode cX0_changesAt 92 = .ok (.iconst 0, 1) := by decide +kernel
theorem dX0_changesAt_93 : decode cX0_changesAt 93 = .ok (.iadd, 1) := by decide +kernel
theorem dX0_changesAt_94 : decode cX0_changesAt 94 = .ok (.istore_n 2, 1) := by decide +kernel
theorem dX0_changesAt_95 : decode cX0_changesAt 95 = .ok (.lload 6, 2) := by decide +kernel
theorem dX0_changesAt_97 : decode cX0_changesAt 97 = .ok (.lstore_n 3, 1) := by decide +kernel
theorem dX0_changesAt_98 : decode cX0_changesAt 98 = .ok (.iinc 5 1, 3) := by decide +kernel
theorem dX0_changesAt_101 : decode cX0_changesAt 101 = .ok (.goto (-94), 3) := by decide +kernel
theorem dX0_changesAt_104 : decode cX0_changesAt 104 = .ok (.aload_n 0, 1) := by decide +kernel
theorem dX0_changesAt_105 : decode cX0_changesAt 105 = .ok (.getfield 24, 3) := by decide +kernel
theorem dX0_changesAt_108 : decode cX0_changesAt 108 = .ok (.ifCond .eq 8, 3) := by decide +kernel
theorem dX0_changesAt_111 : decode cX0_changesAt 111 = .ok (.bipush (-7), 2) := by decide +kernel
theorem dX0_changesAt_113 : decode cX0_changesAt 113 = .ok (.goto 4, 3) := by decide +kernel
theorem dX0_changesAt_116 : decode cX0_changesAt 116 = .ok (.iload_n 2, 1) := by decide +kernel
theorem dX0_changesAt_117 : decode cX0_changesAt 117 = .ok (.ireturn, 1) := by decide +kernel
theorem dX0_valueAt_0 : decode cX0_valueAt 0 = .ok (.lconst 0, 1) := by decide +kernel
theorem dX0_valueAt_1 : decode cX0_valueAt 1 = .ok (.lstore_n 2, 1) := by decide +kernel
theorem dX0_valueAt_2 : decode cX0_valueAt 2 = .ok (.aload_n 0, 1) := by decide +kernel
theorem dX0_valueAt_3 : decode cX0_valueAt 3 = .ok (.invokestatic 28, 3) := by decide +kernel
theorem dX0_valueAt_6 : decode cX0_valueAt 6 = .ok (.istore 4, 2) := by decide +kernel
theorem dX0_valueAt_8 : decode cX0_valueAt 8 = .ok (.iload 4, 2) := by decide +kernel
theorem dX0_valueAt_10 : decode cX0_valueAt 10 = .ok (.ifCond .lt 23, 3) := by decide +kernel
theorem dX0_valueAt_13 : decode cX0_valueAt 13 = .ok (.lload_n 2, 1) := by decide +kernel
theorem dX0_valueAt_14 : decode cX0_valueAt 14 = .ok (.iload_n 1, 1) := by decide +kernel
theorem dX0_valueAt_15 : decode cX0_valueAt 15 = .ok (.i2l, 1) := by decide +kernel
theorem dX0_valueAt_16 : decode cX0_valueAt 16 = .ok (.invokestatic 66, 3) := by decide +kernel
theorem dX0_valueAt_19 : decode cX0_valueAt 19 = .ok (.aload_n 0, 1) := by decide +kernel
theorem dX0_valueAt_20 : decode cX0_valueAt 20 = .ok (.iload 4, 2) := by decide +kernel
theorem dX0_valueAt_22 : decode cX0_valueAt 22 = .ok (.laload, 1) := by decide +kernel
theorem dX0_valueAt_23 : decode cX0_valueAt 23 = .ok (.invokestatic 81, 3) := by decide +kernel
theorem dX0_valueAt_26 : decode cX0_valueAt 26 = .ok (.lstore_n 2, 1) := by decide +kernel
theorem dX0_valueAt_27 : decode cX0_valueAt 27 = .ok (.iinc 4 (-1), 3) := by decide +kernel
theorem dX0_valueAt_30 : decode cX0_valueAt 30 = .ok (.goto (-22), 3) := by decide +kernel
theorem dX0_valueAt_33 : decode cX0_valueAt 33 = .ok (.lload_n 2, 1) := by decide +kernel
theorem dX0_valueAt_34 : decode cX0_valueAt 34 = .ok (.lreturn, 1) := by decide +kernel
theorem dX1_times_0 : decode cX1_times 0 = .ok (.lload_n 0, 1) := by decide +kernel
theorem dX1_times_1 : decode cX1_times 1 = .ok (.ldc2_w 9, 3) := by decide +kernel
theorem dX1_times_4 : decode cX1_times 4 = .ok (.lcmp, 1) := by decide +kernel
theorem dX1_times_5 : decode cX1_times 5 = .ok (.ifCond .eq 11, 3) := by decide +kernel
theorem dX1_times_8 : decode cX1_times 8 = .ok (.lload_n 2, 1) := by decide +kernel
theorem dX1_times_9 : decode cX1_times 9 = .ok (.ldc2_w 9, 3) := by decide +kernel
theorem dX1_times_12 : decode cX1_times 12 = .ok (.lcmp, 1) := by decide +kernel
theorem dX1_times_13 : decode cX1_times 13 = .ok (.ifCond .ne 7, 3) := by decide +kernel
theorem dX1_times_16 : decode cX1_times 16 = .ok (.ldc2_w 9, 3) := by decide +kernel
theorem dX1_times_19 : decode cX1_times 19 = .ok (.lreturn, 1) := by decide +kernel
theorem dX1_times_20 : decode cX1_times 20 = .ok (.lload_n 0, 1) := by decide +kernel
theorem dX1_times_21 : decode cX1_times 21 = .ok (.lconst 0, 1) := by decide +kernel
theorem dX1_times_22 : decode cX1_times 22 = .ok (.lcmp, 1) := by decide +kernel
theorem dX1_times_23 : decode cX1_times 23 = .ok (.ifCond .eq 9, 3) := by decide +kernel
theorem dX1_times_26 : decode cX1_times 26 = .ok (.lload_n 2, 1) := by decide +kernel
theorem dX1_times_27 : decode cX1_times 27 = .ok (.lconst 0, 1) := by decide +kernel
theorem dX1_times_28 : decode cX1_times 28 = .ok (.lcmp, 1) := by decide +kernel
theorem dX1_times_29 : decode cX1_times 29 = .ok (.ifCond .ne 5, 3) := by decide +kernel
theorem dX1_times_32 : decode cX1_times 32 = .ok (.lconst 0, 1) := by decide +kernel
theorem dX1_times_33 : decode cX1_times 33 = .ok (.lreturn, 1) := by decide +kernel
theorem dX1_times_34 : decode cX1_times 34 = .ok (.lload_n 0, 1) := by decide +kernel
theorem dX1_times_35 : decode cX1_times 35 = .ok (.lload_n 2, 1) := by decide +kernel
theorem dX1_times_36 : decode cX1_times 36 = .ok (.lmul, 1) := by decide +kernel
theorem dX1_times_37 : decode cX1_times 37 = .ok (.lstore 4, 2) := by decide +kernel
theorem dX1_times_39 : decode cX1_times 39 = .ok (.lload 4, 2) := by decide +kernel
theorem dX1_times_41 : decode cX1_times 41 = .ok (.ldc2_w 9, 3) := by decide +kernel
theorem dX1_times_44 : decode cX1_times 44 = .ok (.lcmp, 1) := by decide +kernel
theorem dX1_times_45 : decode cX1_times 45 = .ok (.ifCond .eq 12, 3) := by decide +kernel
theorem dX1_times_48 : decode cX1_times 48 = .ok (.lload 4, 2) := by decide +kernel
theorem dX1_times_50 : decode cX1_times 50 = .ok (.lload_n 2, 1) := by decide +kernel
theorem dX1_times_51 : decode cX1_times 51 = .ok (.ldiv, 1) := by decide +kernel
theorem dX1_times_52 : decode cX1_times 52 = .ok (.lload_n 0, 1) := by decide +kernel
theorem dX1_times_53 : decode cX1_times 53 = .ok (.lcmp, 1) := by decide +kernel
theorem dX1_times_54 : decode cX1_times 54 = .ok (.ifCond .eq 9, 3) := by decide +kernel
theorem dX1_times_57 : decode cX1_times 57 = .ok (.ldc2_w 9, 3) := by decide +kernel
theorem dX1_times_60 : decode cX1_times 60 = .ok (.goto 5, 3) := by decide +kernel
theorem dX1_times_63 : decode cX1_times 63 = .ok (.lload 4, 2) := by decide +kernel
theorem dX1_times_65 : decode cX1_times 65 = .ok (.lreturn, 1) := by decide +kernel
theorem dX1_plus_0 : decode cX1_plus 0 = .ok (.lload_n 0, 1) := by decide +kernel
theorem dX1_plus_1 : decode cX1_plus 1 = .ok (.ldc2_w 9, 3) := by decide +kernel
theorem dX1_plus_4 : decode cX1_plus 4 = .ok (.lcmp, 1) := by decide +kernel
theorem dX1_plus_5 : decode cX1_plus 5 = .ok (.ifCond .eq 11, 3) := by decide +kernel
theorem dX1_plus_8 : decode cX1_plus 8 = .ok (.lload_n 2, 1) := by decide +kernel
theorem dX1_plus_9 : decode cX1_plus 9 = .ok (.ldc2_w 9, 3) := by decide +kernel
theorem dX1_plus_12 : decode cX1_plus 12 = .ok (.lcmp, 1) := by decide +kernel
theorem dX1_plus_13 : decode cX1_plus 13 = .ok (.ifCond .ne 7, 3) := by decide +kernel
theorem dX1_plus_16 : decode cX1_plus 16 = .ok (.ldc2_w 9, 3) := by decide +kernel
theorem dX1_plus_19 : decode cX1_plus 19 = .ok (.lreturn, 1) := by decide +kernel
theorem dX1_plus_20 : decode cX1_plus 20 = .ok (.lload_n 0, 1) := by decide +kernel
theorem dX1_plus_21 : decode cX1_plus 21 = .ok (.lload_n 2, 1) := by decide +kernel
theorem dX1_plus_22 : decode cX1_plus 22 = .ok (.ladd, 1) := by decide +kernel
theorem dX1_plus_23 : decode cX1_plus 23 = .ok (.lstore 4, 2) := by decide +kernel
theorem dX1_plus_25 : decode cX1_plus 25 = .ok (.lload_n 0, 1) := by decide +kernel
theorem dX1_plus_26 : decode cX1_plus 26 = .ok (.lload 4, 2) := by decide +kernel
theorem dX1_plus_28 : decode cX1_plus 28 = .ok (.lxor, 1) := by decide +kernel
theorem dX1_plus_29 : decode cX1_plus 29 = .ok (.lload_n 2, 1) := by decide +kernel
theorem dX1_plus_30 : decode cX1_plus 30 = .ok (.lload 4, 2) := by decide +kernel
theorem dX1_plus_32 : decode cX1_plus 32 = .ok (.lxor, 1) := by decide +kernel
theorem dX1_plus_33 : decode cX1_plus 33 = .ok (.land, 1) := by decide +kernel
theorem dX1_plus_34 : decode cX1_plus 34 = .ok (.lconst 0, 1) := by decide +kernel
theorem dX1_plus_35 : decode cX1_plus 35 = .ok (.lcmp, 1) := by decide +kernel
theorem dX1_plus_36 : decode cX1_plus 36 = .ok (.ifCond .ge 7, 3) := by decide +kernel
theorem dX1_plus_39 : decode cX1_plus 39 = .ok (.iconst 1, 1) := by decide +kernel
theorem dX1_plus_40 : decode cX1_plus 40 = .ok (.goto 4, 3) := by decide +kernel
theorem dX1_plus_43 : decode cX1_plus 43 = .ok (.iconst 0, 1) := by decide +kernel
theorem dX1_plus_44 : decode cX1_plus 44 = .ok (.istore 6, 2) := by decide +kernel
theorem dX1_plus_46 : decode cX1_plus 46 = .ok (.iload 6, 2) := by decide +kernel
theorem dX1_plus_48 : decode cX1_plus 48 = .ok (.ifCond .eq 9, 3) := by decide +kernel
theorem dX1_plus_51 : decode cX1_plus 51 = .ok (.ldc2_w 9, 3) := by decide +kernel
theorem dX1_plus_54 : decode cX1_plus 54 = .ok (.goto 5, 3) := by decide +kernel
theorem dX1_plus_57 : decode cX1_plus 57 = .ok (.lload 4, 2) := by decide +kernel
theorem dX1_plus_59 : decode cX1_plus 59 = .ok (.lreturn, 1) := by decide +kernel
theorem dX1_less_0 : decode cX1_less 0 = .ok (.lload_n 0, 1) := by decide +kernel
theorem dX1_less_1 : decode cX1_less 1 = .ok (.ldc2_w 9, 3) := by decide +kernel
theorem dX1_less_4 : decode cX1_less 4 = .ok (.lcmp, 1) := by decide +kernel
theorem dX1_less_5 : decode cX1_less 5 = .ok (.ifCond .eq 11, 3) := by decide +kernel
theorem dX1_less_8 : decode cX1_less 8 = .ok (.lload_n 2, 1) := by decide +kernel
theorem dX1_less_9 : decode cX1_less 9 = .ok (.ldc2_w 9, 3) := by decide +kernel
theorem dX1_less_12 : decode cX1_less 12 = .ok (.lcmp, 1) := by decide +kernel
theorem dX1_less_13 : decode cX1_less 13 = .ok (.ifCond .ne 7, 3) := by decide +kernel
theorem dX1_less_16 : decode cX1_less 16 = .ok (.ldc2_w 9, 3) := by decide +kernel
theorem dX1_less_19 : decode cX1_less 19 = .ok (.lreturn, 1) := by decide +kernel
theorem dX1_less_20 : decode cX1_less 20 = .ok (.lload_n 0, 1) := by decide +kernel
theorem dX1_less_21 : decode cX1_less 21 = .ok (.lload_n 2, 1) := by decide +kernel
theorem dX1_less_22 : decode cX1_less 22 = .ok (.lsub, 1) := by decide +kernel
theorem dX1_less_23 : decode cX1_less 23 = .ok (.lstore 4, 2) := by decide +kernel
theorem dX1_less_25 : decode cX1_less 25 = .ok (.lload_n 0, 1) := by decide +kernel
theorem dX1_less_26 : decode cX1_less 26 = .ok (.lload_n 2, 1) := by decide +kernel
theorem dX1_less_27 : decode cX1_less 27 = .ok (.lxor, 1) := by decide +kernel
theorem dX1_less_28 : decode cX1_less 28 = .ok (.lload_n 0, 1) := by decide +kernel
theorem dX1_less_29 : decode cX1_less 29 = .ok (.lload 4, 2) := by decide +kernel
theorem dX1_less_31 : decode cX1_less 31 = .ok (.lxor, 1) := by decide +kernel
theorem dX1_less_32 : decode cX1_less 32 = .ok (.land, 1) := by decide +kernel
theorem dX1_less_33 : decode cX1_less 33 = .ok (.lconst 0, 1) := by decide +kernel
theorem dX1_less_34 : decode cX1_less 34 = .ok (.lcmp, 1) := by decide +kernel
theorem dX1_less_35 : decode cX1_less 35 = .ok (.ifCond .ge 7, 3) := by decide +kernel
theorem dX1_less_38 : decode cX1_less 38 = .ok (.iconst 1, 1) := by decide +kernel
theorem dX1_less_39 : decode cX1_less 39 = .ok (.goto 4, 3) := by decide +kernel
theorem dX1_less_42 : decode cX1_less 42 = .ok (.iconst 0, 1) := by decide +kernel
theorem dX1_less_43 : decode cX1_less 43 = .ok (.istore 6, 2) := by decide +kernel
theorem dX1_less_45 : decode cX1_less 45 = .ok (.iload 6, 2) := by decide +kernel
theorem dX1_less_47 : decode cX1_less 47 = .ok (.ifCond .eq 9, 3) := by decide +kernel
theorem dX1_less_50 : decode cX1_less 50 = .ok (.ldc2_w 9, 3) := by decide +kernel
theorem dX1_less_53 : decode cX1_less 53 = .ok (.goto 5, 3) := by decide +kernel
theorem dX1_less_56 : decode cX1_less 56 = .ok (.lload 4, 2) := by decide +kernel
theorem dX1_less_58 : decode cX1_less 58 = .ok (.lreturn, 1) := by decide +kernel
theorem dX1_divisor_0 : decode cX1_divisor 0 = .ok (.lload_n 0, 1) := by decide +kernel
theorem dX1_divisor_1 : decode cX1_divisor 1 = .ok (.lconst 0, 1) := by decide +kernel
theorem dX1_divisor_2 : decode cX1_divisor 2 = .ok (.lcmp, 1) := by decide +kernel
theorem dX1_divisor_3 : decode cX1_divisor 3 = .ok (.ifCond .ge 8, 3) := by decide +kernel
theorem dX1_divisor_6 : decode cX1_divisor 6 = .ok (.lload_n 0, 1) := by decide +kernel
theorem dX1_divisor_7 : decode cX1_divisor 7 = .ok (.lneg, 1) := by decide +kernel
theorem dX1_divisor_8 : decode cX1_divisor 8 = .ok (.goto 4, 3) := by decide +kernel
theorem dX1_divisor_11 : decode cX1_divisor 11 = .ok (.lload_n 0, 1) := by decide +kernel
theorem dX1_divisor_12 : decode cX1_divisor 12 = .ok (.lstore 4, 2) := by decide +kernel
theorem dX1_divisor_14 : decode cX1_divisor 14 = .ok (.lload_n 2, 1) := by decide +kernel
theorem dX1_divisor_15 : decode cX1_divisor 15 = .ok (.lconst 0, 1) := by decide +kernel
theorem dX1_divisor_16 : decode cX1_divisor 16 = .ok (.lcmp, 1) := by decide +kernel
theorem dX1_divisor_17 : decode cX1_divisor 17 = .ok (.ifCond .ge 8, 3) := by decide +kernel
theorem dX1_divisor_20 : decode cX1_divisor 20 = .ok (.lload_n 2, 1) := by decide +kernel
theorem dX1_divisor_21 : decode cX1_divisor 21 = .ok (.lneg, 1) := by decide +kernel
theorem dX1_divisor_22 : decode cX1_divisor 22 = .ok (.goto 4, 3) := by decide +kernel
theorem dX1_divisor_25 : decode cX1_divisor 25 = .ok (.lload_n 2, 1) := by decide +kernel
theorem dX1_divisor_26 : decode cX1_divisor 26 = .ok (.lstore 6, 2) := by decide +kernel
theorem dX1_divisor_28 : decode cX1_divisor 28 = .ok (.iconst 0, 1) := by decide +kernel
theorem dX1_divisor_29 : decode cX1_divisor 29 = .ok (.istore 8, 2) := by decide +kernel
theorem dX1_divisor_31 : decode cX1_divisor 31 = .ok (.iload 8, 2) := by decide +kernel
theorem dX1_divisor_33 : decode cX1_divisor 33 = .ok (.bipush 100, 2) := by decide +kernel
theorem dX1_divisor_35 : decode cX1_divisor 35 = .ok (.if_icmp .ge 31, 3) := by decide +kernel
theorem dX1_divisor_38 : decode cX1_divisor 38 = .ok (.lload 6, 2) := by decide +kernel
theorem dX1_divisor_40 : decode cX1_divisor 40 = .ok (.lconst 0, 1) := by decide +kernel
theorem dX1_divisor_41 : decode cX1_divisor 41 = .ok (.lcmp, 1) := by decide +kernel
theorem dX1_divisor_42 : decode cX1_divisor 42 = .ok (.ifCond .eq 24, 3) := by decide +kernel
theorem dX1_divisor_45 : decode cX1_divisor 45 = .ok (.lload 4, 2) := by decide +kernel
theorem dX1_divisor_47 : decode cX1_divisor 47 = .ok (.lload 6, 2) := by decide +kernel
theorem dX1_divisor_49 : decode cX1_divisor 49 = .ok (.lrem, 1) := by decide +kernel
theorem dX1_divisor_50 : decode cX1_divisor 50 = .ok (.lstore 9, 2) := by decide +kernel
theorem dX1_divisor_52 : decode cX1_divisor 52 = .ok (.lload 6, 2) := by decide +kernel
theorem dX1_divisor_54 : decode cX1_divisor 54 = .ok (.lstore 4, 2) := by decide +kernel
theorem dX1_divisor_56 : decode cX1_divisor 56 = .ok (.lload 9, 2) := by decide +kernel
theorem dX1_divisor_58 : decode cX1_divisor 58 = .ok (.lstore 6, 2) := by decide +kernel
theorem dX1_divisor_60 : decode cX1_divisor 60 = .ok (.iinc 8 1, 3) := by decide +kernel
theorem dX1_divisor_63 : decode cX1_divisor 63 = .ok (.goto (-32), 3) := by decide +kernel
theorem dX1_divisor_66 : decode cX1_divisor 66 = .ok (.lload 4, 2) := by decide +kernel
theorem dX1_divisor_68 : decode cX1_divisor 68 = .ok (.lreturn, 1) := by decide +kernel
theorem dX2_init_0 : decode cX2_init 0 = .ok (.aload_n 0, 1) := by decide +kernel
theorem dX2_init_1 : decode cX2_init 1 = .ok (.invokespecial 3, 3) := by decide +kernel
theorem dX2_init_4 : decode cX2_init 4 = .ok (.return_, 1) := by decide +kernel
theorem dX2_become_0 : decode cX2_become 0 = .ok (.aload_n 0, 1) := by decide +kernel
theorem dX2_become_1 : decode cX2_become 1 = .ok (.iload_n 1, 1) := by decide +kernel
theorem dX2_become_2 : decode cX2_become 2 = .ok (.putfield 9, 3) := by decide +kernel
theorem dX2_become_5 : decode cX2_become 5 = .ok (.aload_n 0, 1) := by decide +kernel
theorem dX2_become_6 : decode cX2_become 6 = .ok (.iload_n 2, 1) := by decide +kernel
theorem dX2_become_7 : decode cX2_become 7 = .ok (.putfield 15, 3) := by decide +kernel
theorem dX2_become_10 : decode cX2_become 10 = .ok (.aload_n 0, 1) := by decide +kernel
theorem dX2_become_11 : decode cX2_become 11 = .ok (.iload_n 3, 1) := by decide +kernel
theorem dX2_become_12 : decode cX2_become 12 = .ok (.putfield 18, 3) := by decide +kernel
theorem dX2_become_15 : decode cX2_become 15 = .ok (.return_, 1) := by decide +kernel
theorem dX2_size_0 : decode cX2_size 0 = .ok (.aload_n 0, 1) := by decide +kernel
theorem dX2_size_1 : decode cX2_size 1 = .ok (.getfield 9, 3) := by decide +kernel
theorem dX2_size_4 : decode cX2_size 4 = .ok (.ifCond .eq 11, 3) := by decide +kernel
theorem dX2_size_7 : decode cX2_size 7 = .ok (.aload_n 0, 1) := by decide +kernel
theorem dX2_size_8 : decode cX2_size 8 = .ok (.getfield 9, 3) := by decide +kernel
theorem dX2_size_11 : decode cX2_size 11 = .ok (.iconst 2, 1) := by decide +kernel
theorem dX2_size_12 : decode cX2_size 12 = .ok (.if_icmp .ne 7, 3) := by decide +kernel
theorem dX2_size_15 : decode cX2_size 15 = .ok (.iconst 1, 1) := by decide +kernel
theorem dX2_size_16 : decode cX2_size 16 = .ok (.goto 4, 3) := by decide +kernel
theorem dX2_size_19 : decode cX2_size 19 = .ok (.iconst 2, 1) := by decide +kernel
theorem dX2_size_20 : decode cX2_size 20 = .ok (.ireturn, 1) := by decide +kernel
theorem dX2_rightCount_0 : decode cX2_rightCount 0 = .ok (.aload_n 0, 1) := by decide +kernel
theorem dX2_rightCount_1 : decode cX2_rightCount 1 = .ok (.invokevirtual 21, 3) := by decide +kernel
theorem dX2_rightCount_4 : decode cX2_rightCount 4 = .ok (.iconst 2, 1) := by decide +kernel
theorem dX2_rightCount_5 : decode cX2_rightCount 5 = .ok (.if_icmp .ne 12, 3) := by decide +kernel
theorem dX2_rightCount_8 : decode cX2_rightCount 8 = .ok (.aload_n 0, 1) := by decide +kernel
theorem dX2_rightCount_9 : decode cX2_rightCount 9 = .ok (.getfield 18, 3) := by decide +kernel
theorem dX2_rightCount_12 : decode cX2_rightCount 12 = .ok (.ifCond .ge 5, 3) := by decide +kernel
theorem dX2_rightCount_15 : decode cX2_rightCount 15 = .ok (.iconst 1, 1) := by decide +kernel
theorem dX2_rightCount_16 : decode cX2_rightCount 16 = .ok (.ireturn, 1) := by decide +kernel
theorem dX2_rightCount_17 : decode cX2_rightCount 17 = .ok (.aload_n 0, 1) := by decide +kernel
theorem dX2_rightCount_18 : decode cX2_rightCount 18 = .ok (.getfield 15, 3) := by decide +kernel
theorem dX2_rightCount_21 : decode cX2_rightCount 21 = .ok (.ifCond .lt 5, 3) := by decide +kernel
theorem dX2_rightCount_24 : decode cX2_rightCount 24 = .ok (.iconst 0, 1) := by decide +kernel
theorem dX2_rightCount_25 : decode cX2_rightCount 25 = .ok (.ireturn, 1) := by decide +kernel
theorem dX2_rightCount_26 : decode cX2_rightCount 26 = .ok (.aload_n 0, 1) := by decide +kernel
theorem dX2_rightCount_27 : decode cX2_rightCount 27 = .ok (.invokevirtual 21, 3) := by decide +kernel
theorem dX2_rightCount_30 : decode cX2_rightCount 30 = .ok (.iconst 2, 1) := by decide +kernel
theorem dX2_rightCount_31 : decode cX2_rightCount 31 = .ok (.if_icmp .ne 14, 3) := by decide +kernel
theorem dX2_rightCount_34 : decode cX2_rightCount 34 = .ok (.aload_n 0, 1) := by decide +kernel
theorem dX2_rightCount_35 : decode cX2_rightCount 35 = .ok (.getfield 18, 3) := by decide +kernel
theorem dX2_rightCount_38 : decode cX2_rightCount 38 = .ok (.ifCond .le 7, 3) := by decide +kernel
theorem dX2_rightCount_41 : decode cX2_rightCount 41 = .ok (.iconst 2, 1) := by decide +kernel
theorem dX2_rightCount_42 : decode cX2_rightCount 42 = .ok (.goto 4, 3) := by decide +kernel
theorem dX2_rightCount_45 : decode cX2_rightCount 45 = .ok (.iconst 1, 1) := by decide +kernel
theorem dX2_rightCount_46 : decode cX2_rightCount 46 = .ok (.ireturn, 1) := by decide +kernel
theorem dX2_axisCount_0 : decode cX2_axisCount 0 = .ok (.aload_n 0, 1) := by decide +kernel
theorem dX2_axisCount_1 : decode cX2_axisCount 1 = .ok (.invokevirtual 21, 3) := by decide +kernel
theorem dX2_axisCount_4 : decode cX2_axisCount 4 = .ok (.iconst 1, 1) := by decide +kernel
theorem dX2_axisCount_5 : decode cX2_axisCount 5 = .ok (.if_icmp .ne 16, 3) := by decide +kernel
theorem dX2_axisCount_8 : decode cX2_axisCount 8 = .ok (.aload_n 0, 1) := by decide +kernel
theorem dX2_axisCount_9 : decode cX2_axisCount 9 = .ok (.getfield 15, 3) := by decide +kernel
theorem dX2_axisCount_12 : decode cX2_axisCount 12 = .ok (.ifCond .ne 7, 3) := by decide +kernel
theorem dX2_axisCount_15 : decode cX2_axisCount 15 = .ok (.iconst 1, 1) := by decide +kernel
theorem dX2_axisCount_16 : decode cX2_axisCount 16 = .ok (.goto 4, 3) := by decide +kernel
theorem dX2_axisCount_19 : decode cX2_axisCount 19 = .ok (.iconst 0, 1) := by decide +kernel
theorem dX2_axisCount_20 : decode cX2_axisCount 20 = .ok (.ireturn, 1) := by decide +kernel
theorem dX2_axisCount_21 : decode cX2_axisCount 21 = .ok (.aload_n 0, 1) := by decide +kernel
theorem dX2_axisCount_22 : decode cX2_axisCount 22 = .ok (.getfield 18, 3) := by decide +kernel
theorem dX2_axisCount_25 : decode cX2_axisCount 25 = .ok (.ifCond .ge 5, 3) := by decide +kernel
theorem dX2_axisCount_28 : decode cX2_axisCount 28 = .ok (.iconst 0, 1) := by decide +kernel
theorem dX2_axisCount_29 : decode cX2_axisCount 29 = .ok (.ireturn, 1) := by decide +kernel
theorem dX2_axisCount_30 : decode cX2_axisCount 30 = .ok (.aload_n 0, 1) := by decide +kernel
theorem dX2_axisCount_31 : decode cX2_axisCount 31 = .ok (.getfield 18, 3) := by decide +kernel
theorem dX2_axisCount_34 : decode cX2_axisCount 34 = .ok (.ifCond .ne 16, 3) := by decide +kernel
theorem dX2_axisCount_37 : decode cX2_axisCount 37 = .ok (.aload_n 0, 1) := by decide +kernel
theorem dX2_axisCount_38 : decode cX2_axisCount 38 = .ok (.getfield 15, 3) := by decide +kernel
theorem dX2_axisCount_41 : decode cX2_axisCount 41 = .ok (.ifCond .ne 7, 3) := by decide +kernel
theorem dX2_axisCount_44 : decode cX2_axisCount 44 = .ok (.iconst 2, 1) := by decide +kernel
theorem dX2_axisCount_45 : decode cX2_axisCount 45 = .ok (.goto 4, 3) := by decide +kernel
theorem dX2_axisCount_48 : decode cX2_axisCount 48 = .ok (.iconst 1, 1) := by decide +kernel
theorem dX2_axisCount_49 : decode cX2_axisCount 49 = .ok (.ireturn, 1) := by decide +kernel
theorem dX2_axisCount_50 : decode cX2_axisCount 50 = .ok (.aload_n 0, 1) := by decide +kernel
theorem dX2_axisCount_51 : decode cX2_axisCount 51 = .ok (.getfield 15, 3) := by decide +kernel
theorem dX2_axisCount_54 : decode cX2_axisCount 54 = .ok (.ifCond .ne 7, 3) := by decide +kernel
theorem dX2_axisCount_57 : decode cX2_axisCount 57 = .ok (.iconst 2, 1) := by decide +kernel
theorem dX2_axisCount_58 : decode cX2_axisCount 58 = .ok (.goto 4, 3) := by decide +kernel
theorem dX2_axisCount_61 : decode cX2_axisCount 61 = .ok (.iconst 0, 1) := by decide +kernel
theorem dX2_axisCount_62 : decode cX2_axisCount 62 = .ok (.ireturn, 1) := by decide +kernel
theorem dX2_leftCount_0 : decode cX2_leftCount 0 = .ok (.aload_n 0, 1) := by decide +kernel
theorem dX2_leftCount_1 : decode cX2_leftCount 1 = .ok (.invokevirtual 21, 3) := by decide +kernel
theorem dX2_leftCount_4 : decode cX2_leftCount 4 = .ok (.aload_n 0, 1) := by decide +kernel
theorem dX2_leftCount_5 : decode cX2_leftCount 5 = .ok (.invokevirtual 25, 3) := by decide +kernel
theorem dX2_leftCount_8 : decode cX2_leftCount 8 = .ok (.isub, 1) := by decide +kernel
theorem dX2_leftCount_9 : decode cX2_leftCount 9 = .ok (.aload_n 0, 1) := by decide +kernel
theorem dX2_leftCount_10 : decode cX2_leftCount 10 = .ok (.invokevirtual 28, 3) := by decide +kernel
theorem dX2_leftCount_13 : decode cX2_leftCount 13 = .ok (.isub, 1) := by decide +kernel
theorem dX2_leftCount_14 : decode cX2_leftCount 14 = .ok (.ireturn, 1) := by decide +kernel
theorem dX2_stretch_0 : decode cX2_stretch 0 = .ok (.aload_n 0, 1) := by decide +kernel
theorem dX2_stretch_1 : decode cX2_stretch 1 = .ok (.invokevirtual 21, 3) := by decide +kernel
theorem dX2_stretch_4 : decode cX2_stretch 4 = .ok (.iconst 1, 1) := by decide +kernel
theorem dX2_stretch_5 : decode cX2_stretch 5 = .ok (.if_icmp .ne 12, 3) := by decide +kernel
theorem dX2_stretch_8 : decode cX2_stretch 8 = .ok (.aload_n 1, 1) := by decide +kernel
theorem dX2_stretch_9 : decode cX2_stretch 9 = .ok (.aload_n 0, 1) := by decide +kernel
theorem dX2_stretch_10 : decode cX2_stretch 10 = .ok (.getfield 15, 3) := by decide +kernel
theorem dX2_stretch_13 : decode cX2_stretch 13 = .ok (.invokestatic 31, 3) := by decide +kernel
theorem dX2_stretch_16 : decode cX2_stretch 16 = .ok (.return_, 1) := by decide +kernel
theorem dX2_stretch_17 : decode cX2_stretch 17 = .ok (.bipush 6, 2) := by decide +kernel
theorem dX2_stretch_19 : decode cX2_stretch 19 = .ok (.istore_n 2, 1) := by decide +kernel
theorem dX2_stretch_20 : decode cX2_stretch 20 = .ok (.iload_n 2, 1) := by decide +kernel
theorem dX2_stretch_21 : decode cX2_stretch 21 = .ok (.ifCond .lt 63, 3) := by decide +kernel
theorem dX2_stretch_24 : decode cX2_stretch 24 = .ok (.iload_n 2, 1) := by decide +kernel
theorem dX2_stretch_25 : decode cX2_stretch 25 = .ok (.iconst 2, 1) := by decide +kernel
theorem dX2_stretch_26 : decode cX2_stretch 26 = .ok (.if_icmp .ge 7, 3) := by decide +kernel
theorem dX2_stretch_29 : decode cX2_stretch 29 = .ok (.lconst 0, 1) := by decide +kernel
theorem dX2_stretch_30 : decode cX2_stretch 30 = .ok (.goto 8, 3) := by decide +kernel
theorem dX2_stretch_33 : decode cX2_stretch 33 = .ok (.aload_n 1, 1) := by decide +kernel
theorem dX2_stretch_34 : decode cX2_stretch 34 = .ok (.iload_n 2, 1) := by decide +kernel
theorem dX2_stretch_35 : decode cX2_stretch 35 = .ok (.iconst 2, 1) := by decide +kernel
theorem dX2_stretch_36 : decode cX2_stretch 36 = .ok (.isub, 1) := by decide +kernel
theorem dX2_stretch_37 : decode cX2_stretch 37 = .ok (.laload, 1) := by decide +kernel
theorem dX2_stretch_38 : decode cX2_stretch 38 = .ok (.lstore_n 3, 1) := by decide +kernel
theorem dX2_stretch_39 : decode cX2_stretch 39 = .ok (.iload_n 2, 1) := by decide +kernel
theorem dX2_stretch_40 : decode cX2_stretch 40 = .ok (.iconst 1, 1) := by decide +kernel
theorem dX2_stretch_41 : decode cX2_stretch 41 = .ok (.if_icmp .ge 7, 3) := by decide +kernel
theorem dX2_stretch_44 : decode cX2_stretch 44 = .ok (.lconst 0, 1) := by decide +kernel
theorem dX2_stretch_45 : decode cX2_stretch 45 = .ok (.goto 8, 3) := by decide +kernel
theorem dX2_stretch_48 : decode cX2_stretch 48 = .ok (.aload_n 1, 1) := by decide +kernel
theorem dX2_stretch_49 : decode cX2_stretch 49 = .ok (.iload_n 2, 1) := by decide +kernel
theorem dX2_stretch_50 : decode cX2_stretch 50 = .ok (.iconst 1, 1) := by decide +kernel
theorem dX2_stretch_51 : decode cX2_stretch 51 = .ok (.isub, 1) := by decide +kernel
theorem dX2_stretch_52 : decode cX2_stretch 52 = .ok (.laload, 1) := by decide +kernel
theorem dX2_stretch_53 : decode cX2_stretch 53 = .ok (.lstore 5, 2) := by decide +kernel
theorem dX2_stretch_55 : decode cX2_stretch 55 = .ok (.aload_n 1, 1) := by decide +kernel
theorem dX2_stretch_56 : decode cX2_stretch 56 = .ok (.iload_n 2, 1) := by decide +kernel
theorem dX2_stretch_57 : decode cX2_stretch 57 = .ok (.lload_n 3, 1) := by decide +kernel
theorem dX2_stretch_58 : decode cX2_stretch 58 = .ok (.aload_n 0, 1) := by decide +kernel
theorem dX2_stretch_59 : decode cX2_stretch 59 = .ok (.getfield 15, 3) := by decide +kernel
theorem dX2_stretch_62 : decode cX2_stretch 62 = .ok (.i2l, 1) := by decide +kernel
theorem dX2_stretch_63 : decode cX2_stretch 63 = .ok (.lload 5, 2) := by decide +kernel
theorem dX2_stretch_65 : decode cX2_stretch 65 = .ok (.lmul, 1) := by decide +kernel
theorem dX2_stretch_66 : decode cX2_stretch 66 = .ok (.ladd, 1) := by decide +kernel
theorem dX2_stretch_67 : decode cX2_stretch 67 = .ok (.aload_n 0, 1) := by decide +kernel
theorem dX2_stretch_68 : decode cX2_stretch 68 = .ok (.getfield 18, 3) := by decide +kernel
theorem dX2_stretch_71 : decode cX2_stretch 71 = .ok (.i2l, 1) := by decide +kernel
theorem dX2_stretch_72 : decode cX2_stretch 72 = .ok (.aload_n 1, 1) := by decide +kernel
theorem dX2_stretch_73 : decode cX2_stretch 73 = .ok (.iload_n 2, 1) := by decide +kernel
theorem dX2_stretch_74 : decode cX2_stretch 74 = .ok (.laload, 1) := by decide +kernel
theorem dX2_stretch_75 : decode cX2_stretch 75 = .ok (.lmul, 1) := by decide +kernel
theorem dX2_stretch_76 : decode cX2_stretch 76 = .ok (.ladd, 1) := by decide +kernel
theorem dX2_stretch_77 : decode cX2_stretch 77 = .ok (.lastore, 1) := by decide +kernel
theorem dX2_stretch_78 : decode cX2_stretch 78 = .ok (.iinc 2 (-1), 3) := by decide +kernel
theorem dX2_stretch_81 : decode cX2_stretch 81 = .ok (.goto (-61), 3) := by decide +kernel
theorem dX2_stretch_84 : decode cX2_stretch 84 = .ok (.return_, 1) := by decide +kernel
theorem dX2_timesWithin_0 : decode cX2_timesWithin 0 = .ok (.iconst 0, 1) := by decide +kernel
theorem dX2_timesWithin_1 : decode cX2_timesWithin 1 = .ok (.istore_n 2, 1) := by decide +kernel
theorem dX2_timesWithin_2 : decode cX2_timesWithin 2 = .ok (.iload_n 2, 1) := by decide +kernel
theorem dX2_timesWithin_3 : decode cX2_timesWithin 3 = .ok (.bipush 7, 2) := by decide +kernel
theorem dX2_timesWithin_5 : decode cX2_timesWithin 5 = .ok (.if_icmp .ge 28, 3) := by decide +kernel
theorem dX2_timesWithin_8 : decode cX2_timesWithin 8 = .ok (.aload_n 1, 1) := by decide +kernel
theorem dX2_timesWithin_9 : decode cX2_timesWithin 9 = .ok (.invokestatic 37, 3) := by decide +kernel
theorem dX2_timesWithin_12 : decode cX2_timesWithin 12 = .ok (.aload_n 0, 1) := by decide +kernel
theorem dX2_timesWithin_13 : decode cX2_timesWithin 13 = .ok (.invokevirtual 21, 3) := by decide +kernel
theorem dX2_timesWithin_16 : decode cX2_timesWithin 16 = .ok (.if_icmp .lt 17, 3) := by decide +kernel
theorem dX2_timesWithin_19 : decode cX2_timesWithin 19 = .ok (.aload_n 0, 1) := by decide +kernel
theorem dX2_timesWithin_20 : decode cX2_timesWithin 20 = .ok (.aload_n 1, 1) := by decide +kernel
theorem dX2_timesWithin_21 : decode cX2_timesWithin 21 = .ok (.invokevirtual 41, 3) := by decide +kernel
theorem dX2_timesWithin_24 : decode cX2_timesWithin 24 = .ok (.ifCond .eq 9, 3) := by decide +kernel
theorem dX2_timesWithin_27 : decode cX2_timesWithin 27 = .ok (.iinc 2 1, 3) := by decide +kernel
theorem dX2_timesWithin_30 : decode cX2_timesWithin 30 = .ok (.goto (-28), 3) := by decide +kernel
theorem dX2_timesWithin_33 : decode cX2_timesWithin 33 = .ok (.iload_n 2, 1) := by decide +kernel
theorem dX2_timesWithin_34 : decode cX2_timesWithin 34 = .ok (.ireturn, 1) := by decide +kernel
theorem dX2_dividesOnce_0 : decode cX2_dividesOnce 0 = .ok (.aload_n 0, 1) := by decide +kernel
theorem dX2_dividesOnce_1 : decode cX2_dividesOnce 1 = .ok (.invokevirtual 21, 3) := by decide +kernel
theorem dX2_dividesOnce_4 : decode cX2_dividesOnce 4 = .ok (.istore_n 2, 1) := by decide +kernel
theorem dX2_dividesOnce_5 : decode cX2_dividesOnce 5 = .ok (.aload_n 1, 1) := by decide +kernel
theorem dX2_dividesOnce_6 : decode cX2_dividesOnce 6 = .ok (.invokestatic 37, 3) := by decide +kernel
theorem dX2_dividesOnce_9 : decode cX2_dividesOnce 9 = .ok (.istore_n 3, 1) := by decide +kernel
theorem dX2_dividesOnce_10 : decode cX2_dividesOnce 10 = .ok (.iload_n 3, 1) := by decide +kernel
theorem dX2_dividesOnce_11 : decode cX2_dividesOnce 11 = .ok (.iload_n 2, 1) := by decide +kernel
theorem dX2_dividesOnce_12 : decode cX2_dividesOnce 12 = .ok (.if_icmp .lt 48, 3) := by decide +kernel
theorem dX2_dividesOnce_15 : decode cX2_dividesOnce 15 = .ok (.aload_n 1, 1) := by decide +kernel
theorem dX2_dividesOnce_16 : decode cX2_dividesOnce 16 = .ok (.iload_n 3, 1) := by decide +kernel
theorem dX2_dividesOnce_17 : decode cX2_dividesOnce 17 = .ok (.iconst 1, 1) := by decide +kernel
theorem dX2_dividesOnce_18 : decode cX2_dividesOnce 18 = .ok (.isub, 1) := by decide +kernel
theorem dX2_dividesOnce_19 : decode cX2_dividesOnce 19 = .ok (.dup2, 1) := by decide +kernel
theorem dX2_dividesOnce_20 : decode cX2_dividesOnce 20 = .ok (.laload, 1) := by decide +kernel
theorem dX2_dividesOnce_21 : decode cX2_dividesOnce 21 = .ok (.aload_n 0, 1) := by decide +kernel
theorem dX2_dividesOnce_22 : decode cX2_dividesOnce 22 = .ok (.getfield 15, 3) := by decide +kernel
theorem dX2_dividesOnce_25 : decode cX2_dividesOnce 25 = .ok (.i2l, 1) := by decide +kernel
theorem dX2_dividesOnce_26 : decode cX2_dividesOnce 26 = .ok (.aload_n 1, 1) := by decide +kernel
theorem dX2_dividesOnce_27 : decode cX2_dividesOnce 27 = .ok (.iload_n 3, 1) := by decide +kernel
theorem dX2_dividesOnce_28 : decode cX2_dividesOnce 28 = .ok (.laload, 1) := by decide +kernel
theorem dX2_dividesOnce_29 : decode cX2_dividesOnce 29 = .ok (.lmul, 1) := by decide +kernel
theorem dX2_dividesOnce_30 : decode cX2_dividesOnce 30 = .ok (.lsub, 1) := by decide +kernel
theorem dX2_dividesOnce_31 : decode cX2_dividesOnce 31 = .ok (.lastore, 1) := by decide +kernel
theorem dX2_dividesOnce_32 : decode cX2_dividesOnce 32 = .ok (.iload_n 2, 1) := by decide +kernel
theorem dX2_dividesOnce_33 : decode cX2_dividesOnce 33 = .ok (.iconst 2, 1) := by decide +kernel
theorem dX2_dividesOnce_34 : decode cX2_dividesOnce 34 = .ok (.if_icmp .ne 20, 3) := by decide +kernel
theorem dX2_dividesOnce_37 : decode cX2_dividesOnce 37 = .ok (.aload_n 1, 1) := by decide +kernel
theorem dX2_dividesOnce_38 : decode cX2_dividesOnce 38 = .ok (.iload_n 3, 1) := by decide +kernel
theorem dX2_dividesOnce_39 : decode cX2_dividesOnce 39 = .ok (.iconst 2, 1) := by decide +kernel
theorem dX2_dividesOnce_40 : decode cX2_dividesOnce 40 = .ok (.isub, 1) := by decide +kernel
theorem dX2_dividesOnce_41 : decode cX2_dividesOnce 41 = .ok (.dup2, 1) := by decide +kernel
theorem dX2_dividesOnce_42 : decode cX2_dividesOnce 42 = .ok (.laload, 1) := by decide +kernel
theorem dX2_dividesOnce_43 : decode cX2_dividesOnce 43 = .ok (.aload_n 0, 1) := by decide +kernel
theorem dX2_dividesOnce_44 : decode cX2_dividesOnce 44 = .ok (.getfield 18, 3) := by decide +kernel
theorem dX2_dividesOnce_47 : decode cX2_dividesOnce 47 = .ok (.i2l, 1) := by decide +kernel
theorem dX2_dividesOnce_48 : decode cX2_dividesOnce 48 = .ok (.aload_n 1, 1) := by decide +kernel
theorem dX2_dividesOnce_49 : decode cX2_dividesOnce 49 = .ok (.iload_n 3, 1) := by decide +kernel
theorem dX2_dividesOnce_50 : decode cX2_dividesOnce 50 = .ok (.laload, 1) := by decide +kernel
theorem dX2_dividesOnce_51 : decode cX2_dividesOnce 51 = .ok (.lmul, 1) := by decide +kernel
theorem dX2_dividesOnce_52 : decode cX2_dividesOnce 52 = .ok (.lsub, 1) := by decide +kernel
theorem dX2_dividesOnce_53 : decode cX2_dividesOnce 53 = .ok (.lastore, 1) := by decide +kernel
theorem dX2_dividesOnce_54 : decode cX2_dividesOnce 54 = .ok (.iinc 3 (-1), 3) := by decide +kernel
theorem dX2_dividesOnce_57 : decode cX2_dividesOnce 57 = .ok (.goto (-47), 3) := by decide +kernel
theorem dX2_dividesOnce_60 : decode cX2_dividesOnce 60 = .ok (.aload_n 1, 1) := by decide +kernel
theorem dX2_dividesOnce_61 : decode cX2_dividesOnce 61 = .ok (.iconst 0, 1) := by decide +kernel
theorem dX2_dividesOnce_62 : decode cX2_dividesOnce 62 = .ok (.laload, 1) := by decide +kernel
theorem dX2_dividesOnce_63 : decode cX2_dividesOnce 63 = .ok (.lconst 0, 1) := by decide +kernel
theorem dX2_dividesOnce_64 : decode cX2_dividesOnce 64 = .ok (.lcmp, 1) := by decide +kernel
theorem dX2_dividesOnce_65 : decode cX2_dividesOnce 65 = .ok (.ifCond .ne 16, 3) := by decide +kernel
theorem dX2_dividesOnce_68 : decode cX2_dividesOnce 68 = .ok (.iload_n 2, 1) := by decide +kernel
theorem dX2_dividesOnce_69 : decode cX2_dividesOnce 69 = .ok (.iconst 2, 1) := by decide +kernel
theorem dX2_dividesOnce_70 : decode cX2_dividesOnce 70 = .ok (.if_icmp .ne 13, 3) := by decide +kernel
theorem dX2_dividesOnce_73 : decode cX2_dividesOnce 73 = .ok (.aload_n 1, 1) := by decide +kernel
theorem dX2_dividesOnce_74 : decode cX2_dividesOnce 74 = .ok (.iconst 1, 1) := by decide +kernel
theorem dX2_dividesOnce_75 : decode cX2_dividesOnce 75 = .ok (.laload, 1) := by decide +kernel
theorem dX2_dividesOnce_76 : decode cX2_dividesOnce 76 = .ok (.lconst 0, 1) := by decide +kernel
theorem dX2_dividesOnce_77 : decode cX2_dividesOnce 77 = .ok (.lcmp, 1) := by decide +kernel
theorem dX2_dividesOnce_78 : decode cX2_dividesOnce 78 = .ok (.ifCond .eq 5, 3) := by decide +kernel
theorem dX2_dividesOnce_81 : decode cX2_dividesOnce 81 = .ok (.iconst 0, 1) := by decide +kernel
theorem dX2_dividesOnce_82 : decode cX2_dividesOnce 82 = .ok (.ireturn, 1) := by decide +kernel
theorem dX2_dividesOnce_83 : decode cX2_dividesOnce 83 = .ok (.iconst 0, 1) := by decide +kernel
theorem dX2_dividesOnce_84 : decode cX2_dividesOnce 84 = .ok (.istore_n 3, 1) := by decide +kernel
theorem dX2_dividesOnce_85 : decode cX2_dividesOnce 85 = .ok (.iload_n 3, 1) := by decide +kernel
theorem dX2_dividesOnce_86 : decode cX2_dividesOnce 86 = .ok (.bipush 7, 2) := by decide +kernel
theorem dX2_dividesOnce_88 : decode cX2_dividesOnce 88 = .ok (.if_icmp .ge 29, 3) := by decide +kernel
theorem dX2_dividesOnce_91 : decode cX2_dividesOnce 91 = .ok (.aload_n 1, 1) := by decide +kernel
theorem dX2_dividesOnce_92 : decode cX2_dividesOnce 92 = .ok (.iload_n 3, 1) := by decide +kernel
theorem dX2_dividesOnce_93 : decode cX2_dividesOnce 93 = .ok (.iload_n 3, 1) := by decide +kernel
theorem dX2_dividesOnce_94 : decode cX2_dividesOnce 94 = .ok (.iload_n 2, 1) := by decide +kernel
theorem dX2_dividesOnce_95 : decode cX2_dividesOnce 95 = .ok (.iadd, 1) := by decide +kernel
theorem dX2_dividesOnce_96 : decode cX2_dividesOnce 96 = .ok (.bipush 7, 2) := by decide +kernel
theorem dX2_dividesOnce_98 : decode cX2_dividesOnce 98 = .ok (.if_icmp .ge 11, 3) := by decide +kernel
theorem dX2_dividesOnce_101 : decode cX2_dividesOnce 101 = .ok (.aload_n 1, 1) := by decide +kernel
theorem dX2_dividesOnce_102 : decode cX2_dividesOnce 102 = .ok (.iload_n 3, 1) := by decide +kernel
theorem dX2_dividesOnce_103 : decode cX2_dividesOnce 103 = .ok (.iload_n 2, 1) := by decide +kernel
theorem dX2_dividesOnce_104 : decode cX2_dividesOnce 104 = .ok (.iadd, 1) := by decide +kernel
theorem dX2_dividesOnce_105 : decode cX2_dividesOnce 105 = .ok (.laload, 1) := by decide +kernel
theorem dX2_dividesOnce_106 : decode cX2_dividesOnce 106 = .ok (.goto 4, 3) := by decide +kernel
theorem dX2_dividesOnce_109 : decode cX2_dividesOnce 109 = .ok (.lconst 0, 1) := by decide +kernel
theorem dX2_dividesOnce_110 : decode cX2_dividesOnce 110 = .ok (.lastore, 1) := by decide +kernel
theorem dX2_dividesOnce_111 : decode cX2_dividesOnce 111 = .ok (.iinc 3 1, 3) := by decide +kernel
theorem dX2_dividesOnce_114 : decode cX2_dividesOnce 114 = .ok (.goto (-29), 3) := by decide +kernel
theorem dX2_dividesOnce_117 : decode cX2_dividesOnce 117 = .ok (.iconst 1, 1) := by decide +kernel
theorem dX2_dividesOnce_118 : decode cX2_dividesOnce 118 = .ok (.ireturn, 1) := by decide +kernel
theorem dX3_init_0 : decode cX3_init 0 = .ok (.aload_n 0, 1) := by decide +kernel
theorem dX3_init_1 : decode cX3_init 1 = .ok (.invokespecial 3, 3) := by decide +kernel
theorem dX3_init_4 : decode cX3_init 4 = .ok (.aload_n 0, 1) := by decide +kernel
theorem dX3_init_5 : decode cX3_init 5 = .ok (.bipush 7, 2) := by decide +kernel
theorem dX3_init_7 : decode cX3_init 7 = .ok (.newarray .long, 2) := by decide +kernel
theorem dX3_init_9 : decode cX3_init 9 = .ok (.putfield 9, 3) := by decide +kernel
theorem dX3_init_12 : decode cX3_init 12 = .ok (.aload_n 0, 1) := by decide +kernel
theorem dX3_init_13 : decode cX3_init 13 = .ok (.bipush 7, 2) := by decide +kernel
theorem dX3_init_15 : decode cX3_init 15 = .ok (.newarray .long, 2) := by decide +kernel
theorem dX3_init_17 : decode cX3_init 17 = .ok (.putfield 15, 3) := by decide +kernel
theorem dX3_init_20 : decode cX3_init 20 = .ok (.aload_n 0, 1) := by decide +kernel
theorem dX3_init_21 : decode cX3_init 21 = .ok (.bipush 16, 2) := by decide +kernel
theorem dX3_init_23 : decode cX3_init 23 = .ok (.newarray .int, 2) := by decide +kernel
theorem dX3_init_25 : decode cX3_init 25 = .ok (.putfield 18, 3) := by decide +kernel
theorem dX3_init_28 : decode cX3_init 28 = .ok (.aload_n 0, 1) := by decide +kernel
theorem dX3_init_29 : decode cX3_init 29 = .ok (.bipush 6, 2) := by decide +kernel
theorem dX3_init_31 : decode cX3_init 31 = .ok (.anewarray 22, 3) := by decide +kernel
theorem dX3_init_34 : decode cX3_init 34 = .ok (.putfield 24, 3) := by decide +kernel
theorem dX3_init_37 : decode cX3_init 37 = .ok (.iconst 0, 1) := by decide +kernel
theorem dX3_init_38 : decode cX3_init 38 = .ok (.istore_n 1, 1) := by decide +kernel
theorem dX3_init_39 : decode cX3_init 39 = .ok (.iload_n 1, 1) := by decide +kernel
theorem dX3_init_40 : decode cX3_init 40 = .ok (.bipush 6, 2) := by decide +kernel
theorem dX3_init_42 : decode cX3_init 42 = .ok (.if_icmp .ge 22, 3) := by decide +kernel
theorem dX3_init_45 : decode cX3_init 45 = .ok (.aload_n 0, 1) := by decide +kernel
theorem dX3_init_46 : decode cX3_init 46 = .ok (.getfield 24, 3) := by decide +kernel
theorem dX3_init_49 : decode cX3_init 49 = .ok (.iload_n 1, 1) := by decide +kernel
theorem dX3_init_50 : decode cX3_init 50 = .ok (.new 22, 3) := by decide +kernel
theorem dX3_init_53 : decode cX3_init 53 = .ok (.dup, 1) := by decide +kernel
theorem dX3_init_54 : decode cX3_init 54 = .ok (.invokespecial 28, 3) := by decide +kernel
theorem dX3_init_57 : decode cX3_init 57 = .ok (.aastore, 1) := by decide +kernel
theorem dX3_init_58 : decode cX3_init 58 = .ok (.iinc 1 1, 3) := by decide +kernel
theorem dX3_init_61 : decode cX3_init 61 = .ok (.goto (-22), 3) := by decide +kernel
theorem dX3_init_64 : decode cX3_init 64 = .ok (.return_, 1) := by decide +kernel
theorem dX3_takeOver_0 : decode cX3_takeOver 0 = .ok (.aload_n 1, 1) := by decide +kernel
theorem dX3_takeOver_1 : decode cX3_takeOver 1 = .ok (.getfield 9, 3) := by decide +kernel
theorem dX3_takeOver_4 : decode cX3_takeOver 4 = .ok (.iconst 0, 1) := by decide +kernel
theorem dX3_takeOver_5 : decode cX3_takeOver 5 = .ok (.aload_n 0, 1) := by decide +kernel
theorem dX3_takeOver_6 : decode cX3_takeOver 6 = .ok (.getfield 9, 3) := by decide +kernel
theorem dX3_takeOver_9 : decode cX3_takeOver 9 = .ok (.iconst 0, 1) := by decide +kernel
theorem dX3_takeOver_10 : decode cX3_takeOver 10 = .ok (.bipush 7, 2) := by decide +kernel
theorem dX3_takeOver_12 : decode cX3_takeOver 12 = .ok (.invokestatic 29, 3) := by decide +kernel
theorem dX3_takeOver_15 : decode cX3_takeOver 15 = .ok (.aload_n 1, 1) := by decide +kernel
theorem dX3_takeOver_16 : decode cX3_takeOver 16 = .ok (.getfield 15, 3) := by decide +kernel
theorem dX3_takeOver_19 : decode cX3_takeOver 19 = .ok (.iconst 0, 1) := by decide +kernel
theorem dX3_takeOver_20 : decode cX3_takeOver 20 = .ok (.aload_n 0, 1) := by decide +kernel
theorem dX3_takeOver_21 : decode cX3_takeOver 21 = .ok (.getfield 15, 3) := by decide +kernel
theorem dX3_takeOver_24 : decode cX3_takeOver 24 = .ok (.iconst 0, 1) := by decide +kernel
theorem dX3_takeOver_25 : decode cX3_takeOver 25 = .ok (.bipush 7, 2) := by decide +kernel
theorem dX3_takeOver_27 : decode cX3_takeOver 27 = .ok (.invokestatic 29, 3) := by decide +kernel
theorem dX3_takeOver_30 : decode cX3_takeOver 30 = .ok (.aload_n 0, 1) := by decide +kernel
theorem dX3_takeOver_31 : decode cX3_takeOver 31 = .ok (.aload_n 1, 1) := by decide +kernel
theorem dX3_takeOver_32 : decode cX3_takeOver 32 = .ok (.getfield 35, 3) := by decide +kernel
theorem dX3_takeOver_35 : decode cX3_takeOver 35 = .ok (.putfield 35, 3) := by decide +kernel
theorem dX3_takeOver_38 : decode cX3_takeOver 38 = .ok (.aload_n 1, 1) := by decide +kernel
theorem dX3_takeOver_39 : decode cX3_takeOver 39 = .ok (.getfield 18, 3) := by decide +kernel
theorem dX3_takeOver_42 : decode cX3_takeOver 42 = .ok (.iconst 0, 1) := by decide +kernel
theorem dX3_takeOver_43 : decode cX3_takeOver 43 = .ok (.aload_n 0, 1) := by decide +kernel
theorem dX3_takeOver_44 : decode cX3_takeOver 44 = .ok (.getfield 18, 3) := by decide +kernel
theorem dX3_takeOver_47 : decode cX3_takeOver 47 = .ok (.iconst 0, 1) := by decide +kernel
theorem dX3_takeOver_48 : decode cX3_takeOver 48 = .ok (.bipush 16, 2) := by decide +kernel
theorem dX3_takeOver_50 : decode cX3_takeOver 50 = .ok (.invokestatic 29, 3) := by decide +kernel
theorem dX3_takeOver_53 : decode cX3_takeOver 53 = .ok (.aload_n 0, 1) := by decide +kernel
theorem dX3_takeOver_54 : decode cX3_takeOver 54 = .ok (.aload_n 1, 1) := by decide +kernel
theorem dX3_takeOver_55 : decode cX3_takeOver 55 = .ok (.getfield 39, 3) := by decide +kernel
theorem dX3_takeOver_58 : decode cX3_takeOver 58 = .ok (.putfield 39, 3) := by decide +kernel
theorem dX3_takeOver_61 : decode cX3_takeOver 61 = .ok (.iconst 0, 1) := by decide +kernel
theorem dX3_takeOver_62 : decode cX3_takeOver 62 = .ok (.istore_n 2, 1) := by decide +kernel
theorem dX3_takeOver_63 : decode cX3_takeOver 63 = .ok (.iload_n 2, 1) := by decide +kernel
theorem dX3_takeOver_64 : decode cX3_takeOver 64 = .ok (.bipush 6, 2) := by decide +kernel
theorem dX3_takeOver_66 : decode cX3_takeOver 66 = .ok (.if_icmp .ge 37, 3) := by decide +kernel
theorem dX3_takeOver_69 : decode cX3_takeOver 69 = .ok (.aload_n 1, 1) := by decide +kernel
theorem dX3_takeOver_70 : decode cX3_takeOver 70 = .ok (.getfield 24, 3) := by decide +kernel
theorem dX3_takeOver_73 : decode cX3_takeOver 73 = .ok (.iload_n 2, 1) := by decide +kernel
theorem dX3_takeOver_74 : decode cX3_takeOver 74 = .ok (.aaload, 1) := by decide +kernel
theorem dX3_takeOver_75 : decode cX3_takeOver 75 = .ok (.astore_n 3, 1) := by decide +kernel
theorem dX3_takeOver_76 : decode cX3_takeOver 76 = .ok (.aload_n 0, 1) := by decide +kernel
theorem dX3_takeOver_77 : decode cX3_takeOver 77 = .ok (.getfield 24, 3) := by decide +kernel
theorem dX3_takeOver_80 : decode cX3_takeOver 80 = .ok (.iload_n 2, 1) := by decide +kernel
theorem dX3_takeOver_81 : decode cX3_takeOver 81 = .ok (.aaload, 1) := by decide +kernel
theorem dX3_takeOver_82 : decode cX3_takeOver 82 = .ok (.aload_n 3, 1) := by decide +kernel
theorem dX3_takeOver_83 : decode cX3_takeOver 83 = .ok (.getfield 42, 3) := by decide +kernel
theorem dX3_takeOver_86 : decode cX3_takeOver 86 = .ok (.aload_n 3, 1) := by decide +kernel
theorem dX3_takeOver_87 : decode cX3_takeOver 87 = .ok (.getfield 45, 3) := by decide +kernel
theorem dX3_takeOver_90 : decode cX3_takeOver 90 = .ok (.aload_n 3, 1) := by decide +kernel
theorem dX3_takeOver_91 : decode cX3_takeOver 91 = .ok (.getfield 48, 3) := by decide +kernel
theorem dX3_takeOver_94 : decode cX3_takeOver 94 = .ok (.invokevirtual 51, 3) := by decide +kernel
theorem dX3_takeOver_97 : decode cX3_takeOver 97 = .ok (.iinc 2 1, 3) := by decide +kernel
theorem dX3_takeOver_100 : decode cX3_takeOver 100 = .ok (.goto (-37), 3) := by decide +kernel
theorem dX3_takeOver_103 : decode cX3_takeOver 103 = .ok (.aload_n 0, 1) := by decide +kernel
theorem dX3_takeOver_104 : decode cX3_takeOver 104 = .ok (.aload_n 1, 1) := by decide +kernel
theorem dX3_takeOver_105 : decode cX3_takeOver 105 = .ok (.getfield 55, 3) := by decide +kernel
theorem dX3_takeOver_108 : decode cX3_takeOver 108 = .ok (.putfield 55, 3) := by decide +kernel
theorem dX3_takeOver_111 : decode cX3_takeOver 111 = .ok (.return_, 1) := by decide +kernel
theorem dX3_waitsAhead_0 : decode cX3_waitsAhead 0 = .ok (.iconst 0, 1) := by decide +kernel
theorem dX3_waitsAhead_1 : decode cX3_waitsAhead 1 = .ok (.istore_n 3, 1) := by decide +kernel
theorem dX3_waitsAhead_2 : decode cX3_waitsAhead 2 = .ok (.iload_n 3, 1) := by decide +kernel
theorem dX3_waitsAhead_3 : decode cX3_waitsAhead 3 = .ok (.iload_n 2, 1) := by decide +kernel
theorem dX3_waitsAhead_4 : decode cX3_waitsAhead 4 = .ok (.if_icmp .ge 21, 3) := by decide +kernel
theorem dX3_waitsAhead_7 : decode cX3_waitsAhead 7 = .ok (.aload_n 0, 1) := by decide +kernel
theorem dX3_waitsAhead_8 : decode cX3_waitsAhead 8 = .ok (.getfield 18, 3) := by decide +kernel
theorem dX3_waitsAhead_11 : decode cX3_waitsAhead 11 = .ok (.iload_n 3, 1) := by decide +kernel
theorem dX3_waitsAhead_12 : decode cX3_waitsAhead 12 = .ok (.iaload, 1) := by decide +kernel
theorem dX3_waitsAhead_13 : decode cX3_waitsAhead 13 = .ok (.iload_n 1, 1) := by decide +kernel
theorem dX3_waitsAhead_14 : decode cX3_waitsAhead 14 = .ok (.if_icmp .ne 5, 3) := by decide +kernel
theorem dX3_waitsAhead_17 : decode cX3_waitsAhead 17 = .ok (.iconst 1, 1) := by decide +kernel
theorem dX3_waitsAhead_18 : decode cX3_waitsAhead 18 = .ok (.ireturn, 1) := by decide +kernel
theorem dX3_waitsAhead_19 : decode cX3_waitsAhead 19 = .ok (.iinc 3 1, 3) := by decide +kernel
theorem dX3_waitsAhead_22 : decode cX3_waitsAhead 22 = .ok (.goto (-20), 3) := by decide +kernel
theorem dX3_waitsAhead_25 : decode cX3_waitsAhead 25 = .ok (.iconst 0, 1) := by decide +kernel
theorem dX3_waitsAhead_26 : decode cX3_waitsAhead 26 = .ok (.ireturn, 1) := by decide +kernel
theorem dX3_turnLine_0 : decode cX3_turnLine 0 = .ok (.iconst 0, 1) := by decide +kernel
theorem dX3_turnLine_1 : decode cX3_turnLine 1 = .ok (.istore_n 1, 1) := by decide +kernel
theorem dX3_turnLine_2 : decode cX3_turnLine 2 = .ok (.iload_n 1, 1) := by decide +kernel
theorem dX3_turnLine_3 : decode cX3_turnLine 3 = .ok (.aload_n 0, 1) := by decide +kernel
theorem dX3_turnLine_4 : decode cX3_turnLine 4 = .ok (.getfield 39, 3) := by decide +kernel
theorem dX3_turnLine_7 : decode cX3_turnLine 7 = .ok (.iconst 2, 1) := by decide +kernel
theorem dX3_turnLine_8 : decode cX3_turnLine 8 = .ok (.idiv, 1) := by decide +kernel
theorem dX3_turnLine_9 : decode cX3_turnLine 9 = .ok (.if_icmp .ge 22, 3) := by decide +kernel
theorem dX3_turnLine_12 : decode cX3_turnLine 12 = .ok (.aload_n 0, 1) := by decide +kernel
theorem dX3_turnLine_13 : decode cX3_turnLine 13 = .ok (.iload_n 1, 1) := by decide +kernel
theorem dX3_turnLine_14 : decode cX3_turnLine 14 = .ok (.aload_n 0, 1) := by decide +kernel
theorem dX3_turnLine_15 : decode cX3_turnLine 15 = .ok (.getfield 39, 3) := by decide +kernel
theorem dX3_turnLine_18 : decode cX3_turnLine 18 = .ok (.iconst 1, 1) := by decide +kernel
theorem dX3_turnLine_19 : decode cX3_turnLine 19 = .ok (.isub, 1) := by decide +kernel
theorem dX3_turnLine_20 : decode cX3_turnLine 20 = .ok (.iload_n 1, 1) := by decide +kernel
theorem dX3_turnLine_21 : decode cX3_turnLine 21 = .ok (.isub, 1) := by decide +kernel
theorem dX3_turnLine_22 : decode cX3_turnLine 22 = .ok (.invokevirtual 58, 3) := by decide +kernel
theorem dX3_turnLine_25 : decode cX3_turnLine 25 = .ok (.iinc 1 1, 3) := by decide +kernel
theorem dX3_turnLine_28 : decode cX3_turnLine 28 = .ok (.goto (-26), 3) := by decide +kernel
theorem dX3_turnLine_31 : decode cX3_turnLine 31 = .ok (.return_, 1) := by decide +kernel
theorem dX3_sortLine_0 : decode cX3_sortLine 0 = .ok (.iconst 1, 1) := by decide +kernel
theorem dX3_sortLine_1 : decode cX3_sortLine 1 = .ok (.istore_n 1, 1) := by decide +kernel
theorem dX3_sortLine_2 : decode cX3_sortLine 2 = .ok (.iload_n 1, 1) := by decide +kernel
theorem dX3_sortLine_3 : decode cX3_sortLine 3 = .ok (.aload_n 0, 1) := by decide +kernel
theorem dX3_sortLine_4 : decode cX3_sortLine 4 = .ok (.getfield 39, 3) := by decide +kernel
theorem dX3_sortLine_7 : decode cX3_sortLine 7 = .ok (.if_icmp .ge 46, 3) := by decide +kernel
theorem dX3_sortLine_10 : decode cX3_sortLine 10 = .ok (.iload_n 1, 1) := by decide +kernel
theorem dX3_sortLine_11 : decode cX3_sortLine 11 = .ok (.istore_n 2, 1) := by decide +kernel
theorem dX3_sortLine_12 : decode cX3_sortLine 12 = .ok (.iload_n 2, 1) := by decide +kernel
theorem dX3_sortLine_13 : decode cX3_sortLine 13 = .ok (.ifCond .le 34, 3) := by decide +kernel
theorem dX3_sortLine_16 : decode cX3_sortLine 16 = .ok (.aload_n 0, 1) := by decide +kernel
theorem dX3_sortLine_17 : decode cX3_sortLine 17 = .ok (.getfield 18, 3) := by decide +kernel
theorem dX3_sortLine_20 : decode cX3_sortLine 20 = .ok (.iload_n 2, 1) := by decide +kernel
theorem dX3_sortLine_21 : decode cX3_sortLine 21 = .ok (.iconst 1, 1) := by decide +kernel
theorem dX3_sortLine_22 : decode cX3_sortLine 22 = .ok (.isub, 1) := by decide +kernel
theorem dX3_sortLine_23 : decode cX3_sortLine 23 = .ok (.iaload, 1) := by decide +kernel
theorem dX3_sortLine_24 : decode cX3_sortLine 24 = .ok (.aload_n 0, 1) := by decide +kernel
theorem dX3_sortLine_25 : decode cX3_sortLine 25 = .ok (.getfield 18, 3) := by decide +kernel
theorem dX3_sortLine_28 : decode cX3_sortLine 28 = .ok (.iload_n 2, 1) := by decide +kernel
theorem dX3_sortLine_29 : decode cX3_sortLine 29 = .ok (.iaload, 1) := by decide +kernel
theorem dX3_sortLine_30 : decode cX3_sortLine 30 = .ok (.if_icmp .le 17, 3) := by decide +kernel
theorem dX3_sortLine_33 : decode cX3_sortLine 33 = .ok (.aload_n 0, 1) := by decide +kernel
theorem dX3_sortLine_34 : decode cX3_sortLine 34 = .ok (.iload_n 2, 1) := by decide +kernel
theorem dX3_sortLine_35 : decode cX3_sortLine 35 = .ok (.iconst 1, 1) := by decide +kernel
theorem dX3_sortLine_36 : decode cX3_sortLine 36 = .ok (.isub, 1) := by decide +kernel
theorem dX3_sortLine_37 : decode cX3_sortLine 37 = .ok (.iload_n 2, 1) := by decide +kernel
theorem dX3_sortLine_38 : decode cX3_sortLine 38 = .ok (.invokevirtual 58, 3) := by decide +kernel
theorem dX3_sortLine_41 : decode cX3_sortLine 41 = .ok (.iinc 2 (-1), 3) := by decide +kernel
theorem dX3_sortLine_44 : decode cX3_sortLine 44 = .ok (.goto (-32), 3) := by decide +kernel
theorem dX3_sortLine_47 : decode cX3_sortLine 47 = .ok (.iinc 1 1, 3) := by decide +kernel
theorem dX3_sortLine_50 : decode cX3_sortLine 50 = .ok (.goto (-48), 3) := by decide +kernel
theorem dX3_sortLine_53 : decode cX3_sortLine 53 = .ok (.return_, 1) := by decide +kernel
theorem dX3_firstBecomesLast_0 : decode cX3_firstBecomesLast 0 = .ok (.iconst 1, 1) := by decide +kernel
theorem dX3_firstBecomesLast_1 : decode cX3_firstBecomesLast 1 = .ok (.istore_n 1, 1) := by decide +kernel
theorem dX3_firstBecomesLast_2 : decode cX3_firstBecomesLast 2 = .ok (.iload_n 1, 1) := by decide +kernel
theorem dX3_firstBecomesLast_3 : decode cX3_firstBecomesLast 3 = .ok (.aload_n 0, 1) := by decide +kernel
theorem dX3_firstBecomesLast_4 : decode cX3_firstBecomesLast 4 = .ok (.getfield 39, 3) := by decide +kernel
theorem dX3_firstBecomesLast_7 : decode cX3_firstBecomesLast 7 = .ok (.if_icmp .ge 17, 3) := by decide +kernel
theorem dX3_firstBecomesLast_10 : decode cX3_firstBecomesLast 10 = .ok (.aload_n 0, 1) := by decide +kernel
theorem dX3_firstBecomesLast_11 : decode cX3_firstBecomesLast 11 = .ok (.iload_n 1, 1) := by decide +kernel
theorem dX3_firstBecomesLast_12 : decode cX3_firstBecomesLast 12 = .ok (.iconst 1, 1) := by decide +kernel
theorem dX3_firstBecomesLast_13 : decode cX3_firstBecomesLast 13 = .ok (.isub, 1) := by decide +kernel
theorem dX3_firstBecomesLast_14 : decode cX3_firstBecomesLast 14 = .ok (.iload_n 1, 1) := by decide +kernel
theorem dX3_firstBecomesLast_15 : decode cX3_firstBecomesLast 15 = .ok (.invokevirtual 58, 3) := by decide +kernel
theorem dX3_firstBecomesLast_18 : decode cX3_firstBecomesLast 18 = .ok (.iinc 1 1, 3) := by decide +kernel
theorem dX3_firstBecomesLast_21 : decode cX3_firstBecomesLast 21 = .ok (.goto (-19), 3) := by decide +kernel
theorem dX3_firstBecomesLast_24 : decode cX3_firstBecomesLast 24 = .ok (.return_, 1) := by decide +kernel
theorem dX3_exchange_0 : decode cX3_exchange 0 = .ok (.aload_n 0, 1) := by decide +kernel
theorem dX3_exchange_1 : decode cX3_exchange 1 = .ok (.getfield 18, 3) := by decide +kernel
theorem dX3_exchange_4 : decode cX3_exchange 4 = .ok (.iload_n 1, 1) := by decide +kernel
theorem dX3_exchange_5 : decode cX3_exchange 5 = .ok (.iaload, 1) := by decide +kernel
theorem dX3_exchange_6 : decode cX3_exchange 6 = .ok (.istore_n 3, 1) := by decide +kernel
theorem dX3_exchange_7 : decode cX3_exchange 7 = .ok (.aload_n 0, 1) := by decide +kernel
theorem dX3_exchange_8 : decode cX3_exchange 8 = .ok (.getfield 18, 3) := by decide +kernel
theorem dX3_exchange_11 : decode cX3_exchange 11 = .ok (.iload_n 1, 1) := by decide +kernel
theorem dX3_exchange_12 : decode cX3_exchange 12 = .ok (.aload_n 0, 1) := by decide +kernel
theorem dX3_exchange_13 : decode cX3_exchange 13 = .ok (.getfield 18, 3) := by decide +kernel
theorem dX3_exchange_16 : decode cX3_exchange 16 = .ok (.iload_n 2, 1) := by decide +kernel
theorem dX3_exchange_17 : decode cX3_exchange 17 = .ok (.iaload, 1) := by decide +kernel
theorem dX3_exchange_18 : decode cX3_exchange 18 = .ok (.iastore, 1) := by decide +kernel
theorem dX3_exchange_19 : decode cX3_exchange 19 = .ok (.aload_n 0, 1) := by decide +kernel
theorem dX3_exchange_20 : decode cX3_exchange 20 = .ok (.getfield 18, 3) := by decide +kernel
theorem dX3_exchange_23 : decode cX3_exchange 23 = .ok (.iload_n 2, 1) := by decide +kernel
theorem dX3_exchange_24 : decode cX3_exchange 24 = .ok (.iload_n 3, 1) := by decide +kernel
theorem dX3_exchange_25 : decode cX3_exchange 25 = .ok (.iastore, 1) := by decide +kernel
theorem dX3_exchange_26 : decode cX3_exchange 26 = .ok (.return_, 1) := by decide +kernel
theorem dX3_dropFactor_0 : decode cX3_dropFactor 0 = .ok (.aload_n 0, 1) := by decide +kernel
theorem dX3_dropFactor_1 : decode cX3_dropFactor 1 = .ok (.dup, 1) := by decide +kernel
theorem dX3_dropFactor_2 : decode cX3_dropFactor 2 = .ok (.getfield 55, 3) := by decide +kernel
theorem dX3_dropFactor_5 : decode cX3_dropFactor 5 = .ok (.iconst 1, 1) := by decide +kernel
theorem dX3_dropFactor_6 : decode cX3_dropFactor 6 = .ok (.isub, 1) := by decide +kernel
theorem dX3_dropFactor_7 : decode cX3_dropFactor 7 = .ok (.putfield 55, 3) := by decide +kernel
theorem dX3_dropFactor_10 : decode cX3_dropFactor 10 = .ok (.iload_n 1, 1) := by decide +kernel
theorem dX3_dropFactor_11 : decode cX3_dropFactor 11 = .ok (.istore_n 2, 1) := by decide +kernel
theorem dX3_dropFactor_12 : decode cX3_dropFactor 12 = .ok (.iload_n 2, 1) := by decide +kernel
theorem dX3_dropFactor_13 : decode cX3_dropFactor 13 = .ok (.aload_n 0, 1) := by decide +kernel
theorem dX3_dropFactor_14 : decode cX3_dropFactor 14 = .ok (.getfield 55, 3) := by decide +kernel
theorem dX3_dropFactor_17 : decode cX3_dropFactor 17 = .ok (.if_icmp .ge 39, 3) := by decide +kernel
theorem dX3_dropFactor_20 : decode cX3_dropFactor 20 = .ok (.aload_n 0, 1) := by decide +kernel
theorem dX3_dropFactor_21 : decode cX3_dropFactor 21 = .ok (.getfield 24, 3) := by decide +kernel
theorem dX3_dropFactor_24 : decode cX3_dropFactor 24 = .ok (.iload_n 2, 1) := by decide +kernel
theorem dX3_dropFactor_25 : decode cX3_dropFactor 25 = .ok (.iconst 1, 1) := by decide +kernel
theorem dX3_dropFactor_26 : decode cX3_dropFactor 26 = .ok (.iadd, 1) := by decide +kernel
theorem dX3_dropFactor_27 : decode cX3_dropFactor 27 = .ok (.aaload, 1) := by decide +kernel
theorem dX3_dropFactor_28 : decode cX3_dropFactor 28 = .ok (.astore_n 3, 1) := by decide +kernel
theorem dX3_dropFactor_29 : decode cX3_dropFactor 29 = .ok (.aload_n 0, 1) := by decide +kernel
theorem dX3_dropFactor_30 : decode cX3_dropFactor 30 = .ok (.getfield 24, 3) := by decide +kernel
theorem dX3_dropFactor_33 : decode cX3_dropFactor 33 = .ok (.iload_n 2, 1) := by decide +kernel
theorem dX3_dropFactor_34 : decode cX3_dropFactor 34 = .ok (.aaload, 1) := by decide +kernel
theorem dX3_dropFactor_35 : decode cX3_dropFactor 35 = .ok (.aload_n 3, 1) := by decide +kernel
theorem dX3_dropFactor_36 : decode cX3_dropFactor 36 = .ok (.getfield 42, 3) := by decide +kernel
theorem dX3_dropFactor_39 : decode cX3_dropFactor 39 = .ok (.aload_n 3, 1) := by decide +kernel
theorem dX3_dropFactor_40 : decode cX3_dropFactor 40 = .ok (.getfield 45, 3) := by decide +kernel
theorem dX3_dropFactor_43 : decode cX3_dropFactor 43 = .ok (.aload_n 3, 1) := by decide +kernel
theorem dX3_dropFactor_44 : decode cX3_dropFactor 44 = .ok (.getfield 48, 3) := by decide +kernel
theorem dX3_dropFactor_47 : decode cX3_dropFactor 47 = .ok (.invokevirtual 51, 3) := by decide +kernel
theorem dX3_dropFactor_50 : decode cX3_dropFactor 50 = .ok (.iinc 2 1, 3) := by decide +kernel
theorem dX3_dropFactor_53 : decode cX3_dropFactor 53 = .ok (.goto (-41), 3) := by decide +kernel
theorem dX3_dropFactor_56 : decode cX3_dropFactor 56 = .ok (.return_, 1) := by decide +kernel
theorem dX3_factorsRight_0 : decode cX3_factorsRight 0 = .ok (.iconst 0, 1) := by decide +kernel
theorem dX3_factorsRight_1 : decode cX3_factorsRight 1 = .ok (.istore_n 1, 1) := by decide +kernel
theorem dX3_factorsRight_2 : decode cX3_factorsRight 2 = .ok (.iconst 0, 1) := by decide +kernel
theorem dX3_factorsRight_3 : decode cX3_factorsRight 3 = .ok (.istore_n 2, 1) := by decide +kernel
theorem dX3_factorsRight_4 : decode cX3_factorsRight 4 = .ok (.iload_n 2, 1) := by decide +kernel
theorem dX3_factorsRight_5 : decode cX3_factorsRight 5 = .ok (.aload_n 0, 1) := by decide +kernel
theorem dX3_factorsRight_6 : decode cX3_factorsRight 6 = .ok (.getfield 55, 3) := by decide +kernel
theorem dX3_factorsRight_9 : decode cX3_factorsRight 9 = .ok (.if_icmp .ge 21, 3) := by decide +kernel
theorem dX3_factorsRight_12 : decode cX3_factorsRight 12 = .ok (.iload_n 1, 1) := by decide +kernel
theorem dX3_factorsRight_13 : decode cX3_factorsRight 13 = .ok (.aload_n 0, 1) := by decide +kernel
theorem dX3_factorsRight_14 : decode cX3_factorsRight 14 = .ok (.getfield 24, 3) := by decide +kernel
theorem dX3_factorsRight_17 : decode cX3_factorsRight 17 = .ok (.iload_n 2, 1) := by decide +kernel
theorem dX3_factorsRight_18 : decode cX3_factorsRight 18 = .ok (.aaload, 1) := by decide +kernel
theorem dX3_factorsRight_19 : decode cX3_factorsRight 19 = .ok (.invokevirtual 62, 3) := by decide +kernel
theorem dX3_factorsRight_22 : decode cX3_factorsRight 22 = .ok (.iadd, 1) := by decide +kernel
theorem dX3_factorsRight_23 : decode cX3_factorsRight 23 = .ok (.istore_n 1, 1) := by decide +kernel
theorem dX3_factorsRight_24 : decode cX3_factorsRight 24 = .ok (.iinc 2 1, 3) := by decide +kernel
theorem dX3_factorsRight_27 : decode cX3_factorsRight 27 = .ok (.goto (-23), 3) := by decide +kernel
theorem dX3_factorsRight_30 : decode cX3_factorsRight 30 = .ok (.iload_n 1, 1) := by decide +kernel
theorem dX3_factorsRight_31 : decode cX3_factorsRight 31 = .ok (.ireturn, 1) := by decide +kernel
theorem dX3_factorsAxis_0 : decode cX3_factorsAxis 0 = .ok (.iconst 0, 1) := by decide +kernel
theorem dX3_factorsAxis_1 : decode cX3_factorsAxis 1 = .ok (.istore_n 1, 1) := by decide +kernel
theorem dX3_factorsAxis_2 : decode cX3_factorsAxis 2 = .ok (.iconst 0, 1) := by decide +kernel
theorem dX3_factorsAxis_3 : decode cX3_factorsAxis 3 = .ok (.istore_n 2, 1) := by decide +kernel
theorem dX3_factorsAxis_4 : decode cX3_factorsAxis 4 = .ok (.iload_n 2, 1) := by decide +kernel
theorem dX3_factorsAxis_5 : decode cX3_factorsAxis 5 = .ok (.aload_n 0, 1) := by decide +kernel
theorem dX3_factorsAxis_6 : decode cX3_factorsAxis 6 = .ok (.getfield 55, 3) := by decide +kernel
theorem dX3_factorsAxis_9 : decode cX3_factorsAxis 9 = .ok (.if_icmp .ge 21, 3) := by decide +kernel
theorem dX3_factorsAxis_12 : decode cX3_factorsAxis 12 = .ok (.iload_n 1, 1) := by decide +kernel
theorem dX3_factorsAxis_13 : decode cX3_factorsAxis 13 = .ok (.aload_n 0, 1) := by decide +kernel
theorem dX3_factorsAxis_14 : decode cX3_factorsAxis 14 = .ok (.getfield 24, 3) := by decide +kernel
theorem dX3_factorsAxis_17 : decode cX3_factorsAxis 17 = .ok (.iload_n 2, 1) := by decide +kernel
theorem dX3_factorsAxis_18 : decode cX3_factorsAxis 18 = .ok (.aaload, 1) := by decide +kernel
theorem dX3_factorsAxis_19 : decode cX3_factorsAxis 19 = .ok (.invokevirtual 66, 3) := by decide +kernel
theorem dX3_factorsAxis_22 : decode cX3_factorsAxis 22 = .ok (.iadd, 1) := by decide +kernel
theorem dX3_factorsAxis_23 : decode cX3_factorsAxis 23 = .ok (.istore_n 1, 1) := by decide +kernel
theorem dX3_factorsAxis_24 : decode cX3_factorsAxis 24 = .ok (.iinc 2 1, 3) := by decide +kernel
theorem dX3_factorsAxis_27 : decode cX3_factorsAxis 27 = .ok (.goto (-23), 3) := by decide +kernel
theorem dX3_factorsAxis_30 : decode cX3_factorsAxis 30 = .ok (.iload_n 1, 1) := by decide +kernel
theorem dX3_factorsAxis_31 : decode cX3_factorsAxis 31 = .ok (.ireturn, 1) := by decide +kernel
theorem dX3_factorsLeft_0 : decode cX3_factorsLeft 0 = .ok (.aload_n 0, 1) := by decide +kernel
theorem dX3_factorsLeft_1 : decode cX3_factorsLeft 1 = .ok (.invokevirtual 69, 3) := by decide +kernel
theorem dX3_factorsLeft_4 : decode cX3_factorsLeft 4 = .ok (.aload_n 0, 1) := by decide +kernel
theorem dX3_factorsLeft_5 : decode cX3_factorsLeft 5 = .ok (.invokevirtual 72, 3) := by decide +kernel
theorem dX3_factorsLeft_8 : decode cX3_factorsLeft 8 = .ok (.isub, 1) := by decide +kernel
theorem dX3_factorsLeft_9 : decode cX3_factorsLeft 9 = .ok (.aload_n 0, 1) := by decide +kernel
theorem dX3_factorsLeft_10 : decode cX3_factorsLeft 10 = .ok (.invokevirtual 75, 3) := by decide +kernel
theorem dX3_factorsLeft_13 : decode cX3_factorsLeft 13 = .ok (.isub, 1) := by decide +kernel
theorem dX3_factorsLeft_14 : decode cX3_factorsLeft 14 = .ok (.ireturn, 1) := by decide +kernel
theorem dX3_factorsSize_0 : decode cX3_factorsSize 0 = .ok (.iconst 0, 1) := by decide +kernel
theorem dX3_factorsSize_1 : decode cX3_factorsSize 1 = .ok (.istore_n 1, 1) := by decide +kernel
theorem dX3_factorsSize_2 : decode cX3_factorsSize 2 = .ok (.iconst 0, 1) := by decide +kernel
theorem dX3_factorsSize_3 : decode cX3_factorsSize 3 = .ok (.istore_n 2, 1) := by decide +kernel
theorem dX3_factorsSize_4 : decode cX3_factorsSize 4 = .ok (.iload_n 2, 1) := by decide +kernel
theorem dX3_factorsSize_5 : decode cX3_factorsSize 5 = .ok (.aload_n 0, 1) := by decide +kernel
theorem dX3_factorsSize_6 : decode cX3_factorsSize 6 = .ok (.getfield 55, 3) := by decide +kernel
theorem dX3_factorsSize_9 : decode cX3_factorsSize 9 = .ok (.if_icmp .ge 21, 3) := by decide +kernel
theorem dX3_factorsSize_12 : decode cX3_factorsSize 12 = .ok (.iload_n 1, 1) := by decide +kernel
theorem dX3_factorsSize_13 : decode cX3_factorsSize 13 = .ok (.aload_n 0, 1) := by decide +kernel
theorem dX3_factorsSize_14 : decode cX3_factorsSize 14 = .ok (.getfield 24, 3) := by decide +kernel
theorem dX3_factorsSize_17 : decode cX3_factorsSize 17 = .ok (.iload_n 2, 1) := by decide +kernel
theorem dX3_factorsSize_18 : decode cX3_factorsSize 18 = .ok (.aaload, 1) := by decide +kernel
theorem dX3_factorsSize_19 : decode cX3_factorsSize 19 = .ok (.invokevirtual 78, 3) := by decide +kernel
theorem dX3_factorsSize_22 : decode cX3_factorsSize 22 = .ok (.iadd, 1) := by decide +kernel
theorem dX3_factorsSize_23 : decode cX3_factorsSize 23 = .ok (.istore_n 1, 1) := by decide +kernel
theorem dX3_factorsSize_24 : decode cX3_factorsSize 24 = .ok (.iinc 2 1, 3) := by decide +kernel
theorem dX3_factorsSize_27 : decode cX3_factorsSize 27 = .ok (.goto (-23), 3) := by decide +kernel
theorem dX3_factorsSize_30 : decode cX3_factorsSize 30 = .ok (.iload_n 1, 1) := by decide +kernel
theorem dX3_factorsSize_31 : decode cX3_factorsSize 31 = .ok (.ireturn, 1) := by decide +kernel
theorem dX3_productInto_0 : decode cX3_productInto 0 = .ok (.iconst 0, 1) := by decide +kernel
theorem dX3_productInto_1 : decode cX3_productInto 1 = .ok (.istore_n 2, 1) := by decide +kernel
theorem dX3_productInto_2 : decode cX3_productInto 2 = .ok (.iload_n 2, 1) := by decide +kernel
theorem dX3_productInto_3 : decode cX3_productInto 3 = .ok (.bipush 7, 2) := by decide +kernel
theorem dX3_productInto_5 : decode cX3_productInto 5 = .ok (.if_icmp .ge 21, 3) := by decide +kernel
theorem dX3_productInto_8 : decode cX3_productInto 8 = .ok (.aload_n 1, 1) := by decide +kernel
theorem dX3_productInto_9 : decode cX3_productInto 9 = .ok (.iload_n 2, 1) := by decide +kernel
theorem dX3_productInto_10 : decode cX3_productInto 10 = .ok (.iload_n 2, 1) := by decide +kernel
theorem dX3_productInto_11 : decode cX3_productInto 11 = .ok (.ifCond .ne 7, 3) := by decide +kernel
theorem dX3_productInto_14 : decode cX3_productInto 14 = .ok (.lconst 1, 1) := by decide +kernel
theorem dX3_productInto_15 : decode cX3_productInto 15 = .ok (.goto 4, 3) := by decide +kernel
theorem dX3_productInto_18 : decode cX3_productInto 18 = .ok (.lconst 0, 1) := by decide +kernel
theorem dX3_productInto_19 : decode cX3_productInto 19 = .ok (.lastore, 1) := by decide +kernel
theorem dX3_productInto_20 : decode cX3_productInto 20 = .ok (.iinc 2 1, 3) := by decide +kernel
theorem dX3_productInto_23 : decode cX3_productInto 23 = .ok (.goto (-21), 3) := by decide +kernel
theorem dX3_productInto_26 : decode cX3_productInto 26 = .ok (.iconst 0, 1) := by decide +kernel
theorem dX3_productInto_27 : decode cX3_productInto 27 = .ok (.istore_n 2, 1) := by decide +kernel
theorem dX3_productInto_28 : decode cX3_productInto 28 = .ok (.iload_n 2, 1) := by decide +kernel
theorem dX3_productInto_29 : decode cX3_productInto 29 = .ok (.aload_n 0, 1) := by decide +kernel
theorem dX3_productInto_30 : decode cX3_productInto 30 = .ok (.getfield 55, 3) := by decide +kernel
theorem dX3_productInto_33 : decode cX3_productInto 33 = .ok (.if_icmp .ge 19, 3) := by decide +kernel
theorem dX3_productInto_36 : decode cX3_productInto 36 = .ok (.aload_n 0, 1) := by decide +kernel
theorem dX3_productInto_37 : decode cX3_productInto 37 = .ok (.getfield 24, 3) := by decide +kernel
theorem dX3_productInto_40 : decode cX3_productInto 40 = .ok (.iload_n 2, 1) := by decide +kernel
theorem dX3_productInto_41 : decode cX3_productInto 41 = .ok (.aaload, 1) := by decide +kernel
theorem dX3_productInto_42 : decode cX3_productInto 42 = .ok (.aload_n 1, 1) := by decide +kernel
theorem dX3_productInto_43 : decode cX3_productInto 43 = .ok (.invokevirtual 81, 3) := by decide +kernel
theorem dX3_productInto_46 : decode cX3_productInto 46 = .ok (.iinc 2 1, 3) := by decide +kernel
theorem dX3_productInto_49 : decode cX3_productInto 49 = .ok (.goto (-21), 3) := by decide +kernel
theorem dX3_productInto_52 : decode cX3_productInto 52 = .ok (.return_, 1) := by decide +kernel
theorem dX4_highest_0 : decode cX4_highest 0 = .ok (.aload_n 0, 1) := by decide +kernel
theorem dX4_highest_1 : decode cX4_highest 1 = .ok (.arraylength, 1) := by decide +kernel
theorem dX4_highest_2 : decode cX4_highest 2 = .ok (.iconst 1, 1) := by decide +kernel
theorem dX4_highest_3 : decode cX4_highest 3 = .ok (.isub, 1) := by decide +kernel
theorem dX4_highest_4 : decode cX4_highest 4 = .ok (.istore_n 1, 1) := by decide +kernel
theorem dX4_highest_5 : decode cX4_highest 5 = .ok (.iload_n 1, 1) := by decide +kernel
theorem dX4_highest_6 : decode cX4_highest 6 = .ok (.ifCond .lt 19, 3) := by decide +kernel
theorem dX4_highest_9 : decode cX4_highest 9 = .ok (.aload_n 0, 1) := by decide +kernel
theorem dX4_highest_10 : decode cX4_highest 10 = .ok (.iload_n 1, 1) := by decide +kernel
theorem dX4_highest_11 : decode cX4_highest 11 = .ok (.laload, 1) := by decide +kernel
theorem dX4_highest_12 : decode cX4_highest 12 = .ok (.lconst 0, 1) := by decide +kernel
theorem dX4_highest_13 : decode cX4_highest 13 = .ok (.lcmp, 1) := by decide +kernel
theorem dX4_highest_14 : decode cX4_highest 14 = .ok (.ifCond .eq 5, 3) := by decide +kernel
theorem dX4_highest_17 : decode cX4_highest 17 = .ok (.iload_n 1, 1) := by decide +kernel
theorem dX4_highest_18 : decode cX4_highest 18 = .ok (.ireturn, 1) := by decide +kernel
theorem dX4_highest_19 : decode cX4_highest 19 = .ok (.iinc 1 (-1), 3) := by decide +kernel
theorem dX4_highest_22 : decode cX4_highest 22 = .ok (.goto (-17), 3) := by decide +kernel
theorem dX4_highest_25 : decode cX4_highest 25 = .ok (.iconst (-1), 1) := by decide +kernel
theorem dX4_highest_26 : decode cX4_highest 26 = .ok (.ireturn, 1) := by decide +kernel
theorem dX4_mix_0 : decode cX4_mix 0 = .ok (.iconst 0, 1) := by decide +kernel
theorem dX4_mix_1 : decode cX4_mix 1 = .ok (.istore 5, 2) := by decide +kernel
theorem dX4_mix_3 : decode cX4_mix 3 = .ok (.iload 5, 2) := by decide +kernel
theorem dX4_mix_5 : decode cX4_mix 5 = .ok (.bipush 7, 2) := by decide +kernel
theorem dX4_mix_7 : decode cX4_mix 7 = .ok (.if_icmp .ge 29, 3) := by decide +kernel
theorem dX4_mix_10 : decode cX4_mix 10 = .ok (.aload 4, 2) := by decide +kernel
theorem dX4_mix_12 : decode cX4_mix 12 = .ok (.iload 5, 2) := by decide +kernel
theorem dX4_mix_14 : decode cX4_mix 14 = .ok (.iload_n 1, 1) := by decide +kernel
theorem dX4_mix_15 : decode cX4_mix 15 = .ok (.i2l, 1) := by decide +kernel
theorem dX4_mix_16 : decode cX4_mix 16 = .ok (.aload_n 0, 1) := by decide +kernel
theorem dX4_mix_17 : decode cX4_mix 17 = .ok (.iload 5, 2) := by decide +kernel
theorem dX4_mix_19 : decode cX4_mix 19 = .ok (.laload, 1) := by decide +kernel
theorem dX4_mix_20 : decode cX4_mix 20 = .ok (.lmul, 1) := by decide +kernel
theorem dX4_mix_21 : decode cX4_mix 21 = .ok (.iload_n 3, 1) := by decide +kernel
theorem dX4_mix_22 : decode cX4_mix 22 = .ok (.i2l, 1) := by decide +kernel
theorem dX4_mix_23 : decode cX4_mix 23 = .ok (.aload_n 2, 1) := by decide +kernel
theorem dX4_mix_24 : decode cX4_mix 24 = .ok (.iload 5, 2) := by decide +kernel
theorem dX4_mix_26 : decode cX4_mix 26 = .ok (.laload, 1) := by decide +kernel
theorem dX4_mix_27 : decode cX4_mix 27 = .ok (.lmul, 1) := by decide +kernel
theorem dX4_mix_28 : decode cX4_mix 28 = .ok (.ladd, 1) := by decide +kernel
theorem dX4_mix_29 : decode cX4_mix 29 = .ok (.lastore, 1) := by decide +kernel
theorem dX4_mix_30 : decode cX4_mix 30 = .ok (.iinc 5 1, 3) := by decide +kernel
theorem dX4_mix_33 : decode cX4_mix 33 = .ok (.goto (-30), 3) := by decide +kernel
theorem dX4_mix_36 : decode cX4_mix 36 = .ok (.return_, 1) := by decide +kernel
theorem dX4_isGreat_0 : decode cX4_isGreat 0 = .ok (.iconst 0, 1) := by decide +kernel
theorem dX4_isGreat_1 : decode cX4_isGreat 1 = .ok (.istore_n 1, 1) := by decide +kernel
theorem dX4_isGreat_2 : decode cX4_isGreat 2 = .ok (.iload_n 1, 1) := by decide +kernel
theorem dX4_isGreat_3 : decode cX4_isGreat 3 = .ok (.aload_n 0, 1) := by decide +kernel
theorem dX4_isGreat_4 : decode cX4_isGreat 4 = .ok (.arraylength, 1) := by decide +kernel
theorem dX4_isGreat_5 : decode cX4_isGreat 5 = .ok (.if_icmp .ge 21, 3) := by decide +kernel
theorem dX4_isGreat_8 : decode cX4_isGreat 8 = .ok (.aload_n 0, 1) := by decide +kernel
theorem dX4_isGreat_9 : decode cX4_isGreat 9 = .ok (.iload_n 1, 1) := by decide +kernel
theorem dX4_isGreat_10 : decode cX4_isGreat 10 = .ok (.laload, 1) := by decide +kernel
theorem dX4_isGreat_11 : decode cX4_isGreat 11 = .ok (.ldc2_w 9, 3) := by decide +kernel
theorem dX4_isGreat_14 : decode cX4_isGreat 14 = .ok (.lcmp, 1) := by decide +kernel
theorem dX4_isGreat_15 : decode cX4_isGreat 15 = .ok (.ifCond .ne 5, 3) := by decide +kernel
theorem dX4_isGreat_18 : decode cX4_isGreat 18 = .ok (.iconst 1, 1) := by decide +kernel
theorem dX4_isGreat_19 : decode cX4_isGreat 19 = .ok (.ireturn, 1) := by decide +kernel
theorem dX4_isGreat_20 : decode cX4_isGreat 20 = .ok (.iinc 1 1, 3) := by decide +kernel
theorem dX4_isGreat_23 : decode cX4_isGreat 23 = .ok (.goto (-21), 3) := by decide +kernel
theorem dX4_isGreat_26 : decode cX4_isGreat 26 = .ok (.iconst 0, 1) := by decide +kernel
theorem dX4_isGreat_27 : decode cX4_isGreat 27 = .ok (.ireturn, 1) := by decide +kernel
theorem dX4_shrink_0 : decode cX4_shrink 0 = .ok (.lconst 0, 1) := by decide +kernel
theorem dX4_shrink_1 : decode cX4_shrink 1 = .ok (.lstore_n 1, 1) := by decide +kernel
theorem dX4_shrink_2 : decode cX4_shrink 2 = .ok (.iconst 0, 1) := by decide +kernel
theorem dX4_shrink_3 : decode cX4_shrink 3 = .ok (.istore_n 3, 1) := by decide +kernel
theorem dX4_shrink_4 : decode cX4_shrink 4 = .ok (.iload_n 3, 1) := by decide +kernel
theorem dX4_shrink_5 : decode cX4_shrink 5 = .ok (.aload_n 0, 1) := by decide +kernel
theorem dX4_shrink_6 : decode cX4_shrink 6 = .ok (.arraylength, 1) := by decide +kernel
theorem dX4_shrink_7 : decode cX4_shrink 7 = .ok (.if_icmp .ge 17, 3) := by decide +kernel
theorem dX4_shrink_10 : decode cX4_shrink 10 = .ok (.lload_n 1, 1) := by decide +kernel
theorem dX4_shrink_11 : decode cX4_shrink 11 = .ok (.aload_n 0, 1) := by decide +kernel
theorem dX4_shrink_12 : decode cX4_shrink 12 = .ok (.iload_n 3, 1) := by decide +kernel
theorem dX4_shrink_13 : decode cX4_shrink 13 = .ok (.laload, 1) := by decide +kernel
theorem dX4_shrink_14 : decode cX4_shrink 14 = .ok (.invokestatic 11, 3) := by decide +kernel
theorem dX4_shrink_17 : decode cX4_shrink 17 = .ok (.lstore_n 1, 1) := by decide +kernel
theorem dX4_shrink_18 : decode cX4_shrink 18 = .ok (.iinc 3 1, 3) := by decide +kernel
theorem dX4_shrink_21 : decode cX4_shrink 21 = .ok (.goto (-17), 3) := by decide +kernel
theorem dX4_shrink_24 : decode cX4_shrink 24 = .ok (.lload_n 1, 1) := by decide +kernel
theorem dX4_shrink_25 : decode cX4_shrink 25 = .ok (.ldc2_w 17, 3) := by decide +kernel
theorem dX4_shrink_28 : decode cX4_shrink 28 = .ok (.lcmp, 1) := by decide +kernel
theorem dX4_shrink_29 : decode cX4_shrink 29 = .ok (.ifCond .ge 4, 3) := by decide +kernel
theorem dX4_shrink_32 : decode cX4_shrink 32 = .ok (.return_, 1) := by decide +kernel
theorem dX4_shrink_33 : decode cX4_shrink 33 = .ok (.iconst 0, 1) := by decide +kernel
theorem dX4_shrink_34 : decode cX4_shrink 34 = .ok (.istore_n 3, 1) := by decide +kernel
theorem dX4_shrink_35 : decode cX4_shrink 35 = .ok (.iload_n 3, 1) := by decide +kernel
theorem dX4_shrink_36 : decode cX4_shrink 36 = .ok (.aload_n 0, 1) := by decide +kernel
theorem dX4_shrink_37 : decode cX4_shrink 37 = .ok (.arraylength, 1) := by decide +kernel
theorem dX4_shrink_38 : decode cX4_shrink 38 = .ok (.if_icmp .ge 16, 3) := by decide +kernel
theorem dX4_shrink_41 : decode cX4_shrink 41 = .ok (.aload_n 0, 1) := by decide +kernel
theorem dX4_shrink_42 : decode cX4_shrink 42 = .ok (.iload_n 3, 1) := by decide +kernel
theorem dX4_shrink_43 : decode cX4_shrink 43 = .ok (.dup2, 1) := by decide +kernel
theorem dX4_shrink_44 : decode cX4_shrink 44 = .ok (.laload, 1) := by decide +kernel
theorem dX4_shrink_45 : decode cX4_shrink 45 = .ok (.lload_n 1, 1) := by decide +kernel
theorem dX4_shrink_46 : decode cX4_shrink 46 = .ok (.ldiv, 1) := by decide +kernel
theorem dX4_shrink_47 : decode cX4_shrink 47 = .ok (.lastore, 1) := by decide +kernel
theorem dX4_shrink_48 : decode cX4_shrink 48 = .ok (.iinc 3 1, 3) := by decide +kernel
theorem dX4_shrink_51 : decode cX4_shrink 51 = .ok (.goto (-16), 3) := by decide +kernel
theorem dX4_shrink_54 : decode cX4_shrink 54 = .ok (.return_, 1) := by decide +kernel
theorem dX4_stretch_0 : decode cX4_stretch 0 = .ok (.bipush 6, 2) := by decide +kernel
theorem dX4_stretch_2 : decode cX4_stretch 2 = .ok (.istore_n 2, 1) := by decide +kernel
theorem dX4_stretch_3 : decode cX4_stretch 3 = .ok (.iload_n 2, 1) := by decide +kernel
theorem dX4_stretch_4 : decode cX4_stretch 4 = .ok (.ifCond .le 24, 3) := by decide +kernel
theorem dX4_stretch_7 : decode cX4_stretch 7 = .ok (.aload_n 0, 1) := by decide +kernel
theorem dX4_stretch_8 : decode cX4_stretch 8 = .ok (.iload_n 2, 1) := by decide +kernel
theorem dX4_stretch_9 : decode cX4_stretch 9 = .ok (.aload_n 0, 1) := by decide +kernel
theorem dX4_stretch_10 : decode cX4_stretch 10 = .ok (.iload_n 2, 1) := by decide +kernel
theorem dX4_stretch_11 : decode cX4_stretch 11 = .ok (.iconst 1, 1) := by decide +kernel
theorem dX4_stretch_12 : decode cX4_stretch 12 = .ok (.isub, 1) := by decide +kernel
theorem dX4_stretch_13 : decode cX4_stretch 13 = .ok (.laload, 1) := by decide +kernel
theorem dX4_stretch_14 : decode cX4_stretch 14 = .ok (.iload_n 1, 1) := by decide +kernel
theorem dX4_stretch_15 : decode cX4_stretch 15 = .ok (.i2l, 1) := by decide +kernel
theorem dX4_stretch_16 : decode cX4_stretch 16 = .ok (.aload_n 0, 1) := by decide +kernel
theorem dX4_stretch_17 : decode cX4_stretch 17 = .ok (.iload_n 2, 1) := by decide +kernel
theorem dX4_stretch_18 : decode cX4_stretch 18 = .ok (.laload, 1) := by decide +kernel
theorem dX4_stretch_19 : decode cX4_stretch 19 = .ok (.lmul, 1) := by decide +kernel
theorem dX4_stretch_20 : decode cX4_stretch 20 = .ok (.ladd, 1) := by decide +kernel
theorem dX4_stretch_21 : decode cX4_stretch 21 = .ok (.lastore, 1) := by decide +kernel
theorem dX4_stretch_22 : decode cX4_stretch 22 = .ok (.iinc 2 (-1), 3) := by decide +kernel
theorem dX4_stretch_25 : decode cX4_stretch 25 = .ok (.goto (-22), 3) := by decide +kernel
theorem dX4_stretch_28 : decode cX4_stretch 28 = .ok (.aload_n 0, 1) := by decide +kernel
theorem dX4_stretch_29 : decode cX4_stretch 29 = .ok (.iconst 0, 1) := by decide +kernel
theorem dX4_stretch_30 : decode cX4_stretch 30 = .ok (.dup2, 1) := by decide +kernel
theorem dX4_stretch_31 : decode cX4_stretch 31 = .ok (.laload, 1) := by decide +kernel
theorem dX4_stretch_32 : decode cX4_stretch 32 = .ok (.iload_n 1, 1) := by decide +kernel
theorem dX4_stretch_33 : decode cX4_stretch 33 = .ok (.i2l, 1) := by decide +kernel
theorem dX4_stretch_34 : decode cX4_stretch 34 = .ok (.lmul, 1) := by decide +kernel
theorem dX4_stretch_35 : decode cX4_stretch 35 = .ok (.lastore, 1) := by decide +kernel
theorem dX4_stretch_36 : decode cX4_stretch 36 = .ok (.return_, 1) := by decide +kernel
theorem dX5_init_0 : decode cX5_init 0 = .ok (.aload_n 0, 1) := by decide +kernel
theorem dX5_init_1 : decode cX5_init 1 = .ok (.invokespecial 3, 3) := by decide +kernel
theorem dX5_init_4 : decode cX5_init 4 = .ok (.aload_n 0, 1) := by decide +kernel
theorem dX5_init_5 : decode cX5_init 5 = .ok (.bipush 7, 2) := by decide +kernel
theorem dX5_init_7 : decode cX5_init 7 = .ok (.newarray .long, 2) := by decide +kernel
theorem dX5_init_9 : decode cX5_init 9 = .ok (.putfield 9, 3) := by decide +kernel
theorem dX5_init_12 : decode cX5_init 12 = .ok (.aload_n 0, 1) := by decide +kernel
theorem dX5_init_13 : decode cX5_init 13 = .ok (.new 15, 3) := by decide +kernel
theorem dX5_init_16 : decode cX5_init 16 = .ok (.dup, 1) := by decide +kernel
theorem dX5_init_17 : decode cX5_init 17 = .ok (.invokespecial 17, 3) := by decide +kernel
theorem dX5_init_20 : decode cX5_init 20 = .ok (.putfield 18, 3) := by decide +kernel
theorem dX5_init_23 : decode cX5_init 23 = .ok (.aload_n 0, 1) := by decide +kernel
theorem dX5_init_24 : decode cX5_init 24 = .ok (.sipush 201, 3) := by decide +kernel
theorem dX5_init_27 : decode cX5_init 27 = .ok (.newarray .int, 2) := by decide +kernel
theorem dX5_init_29 : decode cX5_init 29 = .ok (.putfield 22, 3) := by decide +kernel
theorem dX5_init_32 : decode cX5_init 32 = .ok (.return_, 1) := by decide +kernel
theorem dX5_survey_0 : decode cX5_survey 0 = .ok (.aload_n 0, 1) := by decide +kernel
theorem dX5_survey_1 : decode cX5_survey 1 = .ok (.getfield 26, 3) := by decide +kernel
theorem dX5_survey_4 : decode cX5_survey 4 = .ok (.ifCond .eq 4, 3) := by decide +kernel
theorem dX5_survey_7 : decode cX5_survey 7 = .ok (.return_, 1) := by decide +kernel
theorem dX5_survey_8 : decode cX5_survey 8 = .ok (.bipush (-100), 2) := by decide +kernel
theorem dX5_survey_10 : decode cX5_survey 10 = .ok (.istore_n 2, 1) := by decide +kernel
theorem dX5_survey_11 : decode cX5_survey 11 = .ok (.iload_n 2, 1) := by decide +kernel
theorem dX5_survey_12 : decode cX5_survey 12 = .ok (.bipush 100, 2) := by decide +kernel
theorem dX5_survey_14 : decode cX5_survey 14 = .ok (.if_icmp .gt 76, 3) := by decide +kernel
theorem dX5_survey_17 : decode cX5_survey 17 = .ok (.aload_n 1, 1) := by decide +kernel
theorem dX5_survey_18 : decode cX5_survey 18 = .ok (.getfield 30, 3) := by decide +kernel
theorem dX5_survey_21 : decode cX5_survey 21 = .ok (.iconst 1, 1) := by decide +kernel
theorem dX5_survey_22 : decode cX5_survey 22 = .ok (.aload_n 1, 1) := by decide +kernel
theorem dX5_survey_23 : decode cX5_survey 23 = .ok (.getfield 35, 3) := by decide +kernel
theorem dX5_survey_26 : decode cX5_survey 26 = .ok (.iload_n 2, 1) := by decide +kernel
theorem dX5_survey_27 : decode cX5_survey 27 = .ok (.aload_n 0, 1) := by decide +kernel
theorem dX5_survey_28 : decode cX5_survey 28 = .ok (.getfield 9, 3) := by decide +kernel
theorem dX5_survey_31 : decode cX5_survey 31 = .ok (.invokestatic 38, 3) := by decide +kernel
theorem dX5_survey_34 : decode cX5_survey 34 = .ok (.aload_n 0, 1) := by decide +kernel
theorem dX5_survey_35 : decode cX5_survey 35 = .ok (.getfield 18, 3) := by decide +kernel
theorem dX5_survey_38 : decode cX5_survey 38 = .ok (.aload_n 0, 1) := by decide +kernel
theorem dX5_survey_39 : decode cX5_survey 39 = .ok (.getfield 9, 3) := by decide +kernel
theorem dX5_survey_42 : decode cX5_survey 42 = .ok (.iconst 0, 1) := by decide +kernel
theorem dX5_survey_43 : decode cX5_survey 43 = .ok (.invokevirtual 44, 3) := by decide +kernel
theorem dX5_survey_46 : decode cX5_survey 46 = .ok (.aload_n 0, 1) := by decide +kernel
theorem dX5_survey_47 : decode cX5_survey 47 = .ok (.getfield 18, 3) := by decide +kernel
theorem dX5_survey_50 : decode cX5_survey 50 = .ok (.invokevirtual 48, 3) := by decide +kernel
theorem dX5_survey_53 : decode cX5_survey 53 = .ok (.aload_n 0, 1) := by decide +kernel
theorem dX5_survey_54 : decode cX5_survey 54 = .ok (.getfield 22, 3) := by decide +kernel
theorem dX5_survey_57 : decode cX5_survey 57 = .ok (.iload_n 2, 1) := by decide +kernel
theorem dX5_survey_58 : decode cX5_survey 58 = .ok (.bipush 100, 2) := by decide +kernel
theorem dX5_survey_60 : decode cX5_survey 60 = .ok (.iadd, 1) := by decide +kernel
theorem dX5_survey_61 : decode cX5_survey 61 = .ok (.aload_n 0, 1) := by decide +kernel
theorem dX5_survey_62 : decode cX5_survey 62 = .ok (.getfield 18, 3) := by decide +kernel
theorem dX5_survey_65 : decode cX5_survey 65 = .ok (.getfield 51, 3) := by decide +kernel
theorem dX5_survey_68 : decode cX5_survey 68 = .ok (.ifCond .eq 8, 3) := by decide +kernel
theorem dX5_survey_71 : decode cX5_survey 71 = .ok (.bipush (-7), 2) := by decide +kernel
theorem dX5_survey_73 : decode cX5_survey 73 = .ok (.goto 10, 3) := by decide +kernel
theorem dX5_survey_76 : decode cX5_survey 76 = .ok (.aload_n 0, 1) := by decide +kernel
theorem dX5_survey_77 : decode cX5_survey 77 = .ok (.getfield 18, 3) := by decide +kernel
theorem dX5_survey_80 : decode cX5_survey 80 = .ok (.invokevirtual 54, 3) := by decide +kernel
theorem dX5_survey_83 : decode cX5_survey 83 = .ok (.iastore, 1) := by decide +kernel
theorem dX5_survey_84 : decode cX5_survey 84 = .ok (.iinc 2 1, 3) := by decide +kernel
theorem dX5_survey_87 : decode cX5_survey 87 = .ok (.goto (-76), 3) := by decide +kernel
theorem dX5_survey_90 : decode cX5_survey 90 = .ok (.aload_n 0, 1) := by decide +kernel
theorem dX5_survey_91 : decode cX5_survey 91 = .ok (.iconst 1, 1) := by decide +kernel
theorem dX5_survey_92 : decode cX5_survey 92 = .ok (.putfield 26, 3) := by decide +kernel
theorem dX5_survey_95 : decode cX5_survey 95 = .ok (.return_, 1) := by decide +kernel
theorem dX5_at_0 : decode cX5_at 0 = .ok (.aload_n 0, 1) := by decide +kernel
theorem dX5_at_1 : decode cX5_at 1 = .ok (.getfield 22, 3) := by decide +kernel
theorem dX5_at_4 : decode cX5_at 4 = .ok (.iload_n 1, 1) := by decide +kernel
theorem dX5_at_5 : decode cX5_at 5 = .ok (.bipush 100, 2) := by decide +kernel
