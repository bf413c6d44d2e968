theorem dX5_at_7 : decode cX5_at 7 = .ok (.iadd, 1) := by decide +kernel
theorem dX5_at_8 : decode cX5_at 8 = .ok (.iaload, 1) := by decide +kernel
theorem dX5_at_9 : decode cX5_at 9 = .ok (.ireturn, 1) := by decide +kernel
theorem dX5_isJump_0 : decode cX5_isJump 0 = .ok (.aload_n 0, 1) := by decide +kernel
theorem dX5_isJump_1 : decode cX5_isJump 1 = .ok (.iload_n 1, 1) := by decide +kernel
theorem dX5_isJump_2 : decode cX5_isJump 2 = .ok (.invokevirtual 58, 3) := by decide +kernel
theorem dX5_isJump_5 : decode cX5_isJump 5 = .ok (.aload_n 0, 1) := by decide +kernel
theorem dX5_isJump_6 : decode cX5_isJump 6 = .ok (.iload_n 1, 1) := by decide +kernel
theorem dX5_isJump_7 : decode cX5_isJump 7 = .ok (.iconst 1, 1) := by decide +kernel
theorem dX5_isJump_8 : decode cX5_isJump 8 = .ok (.isub, 1) := by decide +kernel
theorem dX5_isJump_9 : decode cX5_isJump 9 = .ok (.invokevirtual 58, 3) := by decide +kernel
theorem dX5_isJump_12 : decode cX5_isJump 12 = .ok (.if_icmp .eq 7, 3) := by decide +kernel
theorem dX5_isJump_15 : decode cX5_isJump 15 = .ok (.iconst 1, 1) := by decide +kernel
theorem dX5_isJump_16 : decode cX5_isJump 16 = .ok (.goto 4, 3) := by decide +kernel
theorem dX5_isJump_19 : decode cX5_isJump 19 = .ok (.iconst 0, 1) := by decide +kernel
theorem dX5_isJump_20 : decode cX5_isJump 20 = .ok (.ireturn, 1) := by decide +kernel
theorem dX5_jumpCount_0 : decode cX5_jumpCount 0 = .ok (.iconst 0, 1) := by decide +kernel
theorem dX5_jumpCount_1 : decode cX5_jumpCount 1 = .ok (.istore_n 1, 1) := by decide +kernel
theorem dX5_jumpCount_2 : decode cX5_jumpCount 2 = .ok (.bipush (-99), 2) := by decide +kernel
theorem dX5_jumpCount_4 : decode cX5_jumpCount 4 = .ok (.istore_n 2, 1) := by decide +kernel
theorem dX5_jumpCount_5 : decode cX5_jumpCount 5 = .ok (.iload_n 2, 1) := by decide +kernel
theorem dX5_jumpCount_6 : decode cX5_jumpCount 6 = .ok (.bipush 100, 2) := by decide +kernel
theorem dX5_jumpCount_8 : decode cX5_jumpCount 8 = .ok (.if_icmp .gt 25, 3) := by decide +kernel
theorem dX5_jumpCount_11 : decode cX5_jumpCount 11 = .ok (.iload_n 1, 1) := by decide +kernel
theorem dX5_jumpCount_12 : decode cX5_jumpCount 12 = .ok (.aload_n 0, 1) := by decide +kernel
theorem dX5_jumpCount_13 : decode cX5_jumpCount 13 = .ok (.iload_n 2, 1) := by decide +kernel
theorem dX5_jumpCount_14 : decode cX5_jumpCount 14 = .ok (.invokevirtual 62, 3) := by decide +kernel
theorem dX5_jumpCount_17 : decode cX5_jumpCount 17 = .ok (.ifCond .eq 7, 3) := by decide +kernel
theorem dX5_jumpCount_20 : decode cX5_jumpCount 20 = .ok (.iconst 1, 1) := by decide +kernel
theorem dX5_jumpCount_21 : decode cX5_jumpCount 21 = .ok (.goto 4, 3) := by decide +kernel
theorem dX5_jumpCount_24 : decode cX5_jumpCount 24 = .ok (.iconst 0, 1) := by decide +kernel
theorem dX5_jumpCount_25 : decode cX5_jumpCount 25 = .ok (.iadd, 1) := by decide +kernel
theorem dX5_jumpCount_26 : decode cX5_jumpCount 26 = .ok (.istore_n 1, 1) := by decide +kernel
theorem dX5_jumpCount_27 : decode cX5_jumpCount 27 = .ok (.iinc 2 1, 3) := by decide +kernel
theorem dX5_jumpCount_30 : decode cX5_jumpCount 30 = .ok (.goto (-25), 3) := by decide +kernel
theorem dX5_jumpCount_33 : decode cX5_jumpCount 33 = .ok (.iload_n 1, 1) := by decide +kernel
theorem dX5_jumpCount_34 : decode cX5_jumpCount 34 = .ok (.ireturn, 1) := by decide +kernel
theorem dX5_jumpAt_0 : decode cX5_jumpAt 0 = .ok (.iconst 0, 1) := by decide +kernel
theorem dX5_jumpAt_1 : decode cX5_jumpAt 1 = .ok (.istore_n 2, 1) := by decide +kernel
theorem dX5_jumpAt_2 : decode cX5_jumpAt 2 = .ok (.bipush (-99), 2) := by decide +kernel
theorem dX5_jumpAt_4 : decode cX5_jumpAt 4 = .ok (.istore_n 3, 1) := by decide +kernel
theorem dX5_jumpAt_5 : decode cX5_jumpAt 5 = .ok (.iload_n 3, 1) := by decide +kernel
theorem dX5_jumpAt_6 : decode cX5_jumpAt 6 = .ok (.bipush 100, 2) := by decide +kernel
theorem dX5_jumpAt_8 : decode cX5_jumpAt 8 = .ok (.if_icmp .gt 32, 3) := by decide +kernel
theorem dX5_jumpAt_11 : decode cX5_jumpAt 11 = .ok (.iload_n 2, 1) := by decide +kernel
theorem dX5_jumpAt_12 : decode cX5_jumpAt 12 = .ok (.aload_n 0, 1) := by decide +kernel
theorem dX5_jumpAt_13 : decode cX5_jumpAt 13 = .ok (.iload_n 3, 1) := by decide +kernel
theorem dX5_jumpAt_14 : decode cX5_jumpAt 14 = .ok (.invokevirtual 62, 3) := by decide +kernel
theorem dX5_jumpAt_17 : decode cX5_jumpAt 17 = .ok (.ifCond .eq 7, 3) := by decide +kernel
theorem dX5_jumpAt_20 : decode cX5_jumpAt 20 = .ok (.iconst 1, 1) := by decide +kernel
theorem dX5_jumpAt_21 : decode cX5_jumpAt 21 = .ok (.goto 4, 3) := by decide +kernel
theorem dX5_jumpAt_24 : decode cX5_jumpAt 24 = .ok (.iconst 0, 1) := by decide +kernel
theorem dX5_jumpAt_25 : decode cX5_jumpAt 25 = .ok (.iadd, 1) := by decide +kernel
theorem dX5_jumpAt_26 : decode cX5_jumpAt 26 = .ok (.istore_n 2, 1) := by decide +kernel
theorem dX5_jumpAt_27 : decode cX5_jumpAt 27 = .ok (.iload_n 2, 1) := by decide +kernel
theorem dX5_jumpAt_28 : decode cX5_jumpAt 28 = .ok (.iload_n 1, 1) := by decide +kernel
theorem dX5_jumpAt_29 : decode cX5_jumpAt 29 = .ok (.if_icmp .le 5, 3) := by decide +kernel
theorem dX5_jumpAt_32 : decode cX5_jumpAt 32 = .ok (.iload_n 3, 1) := by decide +kernel
theorem dX5_jumpAt_33 : decode cX5_jumpAt 33 = .ok (.ireturn, 1) := by decide +kernel
theorem dX5_jumpAt_34 : decode cX5_jumpAt 34 = .ok (.iinc 3 1, 3) := by decide +kernel
theorem dX5_jumpAt_37 : decode cX5_jumpAt 37 = .ok (.goto (-32), 3) := by decide +kernel
theorem dX5_jumpAt_40 : decode cX5_jumpAt 40 = .ok (.bipush 100, 2) := by decide +kernel
theorem dX5_jumpAt_42 : decode cX5_jumpAt 42 = .ok (.ireturn, 1) := by decide +kernel
theorem dX5_hasBest_0 : decode cX5_hasBest 0 = .ok (.iconst 0, 1) := by decide +kernel
theorem dX5_hasBest_1 : decode cX5_hasBest 1 = .ok (.istore_n 1, 1) := by decide +kernel
theorem dX5_hasBest_2 : decode cX5_hasBest 2 = .ok (.iload_n 1, 1) := by decide +kernel
theorem dX5_hasBest_3 : decode cX5_hasBest 3 = .ok (.sipush 201, 3) := by decide +kernel
theorem dX5_hasBest_6 : decode cX5_hasBest 6 = .ok (.if_icmp .ge 22, 3) := by decide +kernel
theorem dX5_hasBest_9 : decode cX5_hasBest 9 = .ok (.aload_n 0, 1) := by decide +kernel
theorem dX5_hasBest_10 : decode cX5_hasBest 10 = .ok (.getfield 22, 3) := by decide +kernel
theorem dX5_hasBest_13 : decode cX5_hasBest 13 = .ok (.iload_n 1, 1) := by decide +kernel
theorem dX5_hasBest_14 : decode cX5_hasBest 14 = .ok (.iaload, 1) := by decide +kernel
theorem dX5_hasBest_15 : decode cX5_hasBest 15 = .ok (.bipush (-7), 2) := by decide +kernel
theorem dX5_hasBest_17 : decode cX5_hasBest 17 = .ok (.if_icmp .eq 5, 3) := by decide +kernel
theorem dX5_hasBest_20 : decode cX5_hasBest 20 = .ok (.iconst 1, 1) := by decide +kernel
theorem dX5_hasBest_21 : decode cX5_hasBest 21 = .ok (.ireturn, 1) := by decide +kernel
theorem dX5_hasBest_22 : decode cX5_hasBest 22 = .ok (.iinc 1 1, 3) := by decide +kernel
theorem dX5_hasBest_25 : decode cX5_hasBest 25 = .ok (.goto (-23), 3) := by decide +kernel
theorem dX5_hasBest_28 : decode cX5_hasBest 28 = .ok (.iconst 0, 1) := by decide +kernel
theorem dX5_hasBest_29 : decode cX5_hasBest 29 = .ok (.ireturn, 1) := by decide +kernel
theorem dX5_bestGain_0 : decode cX5_bestGain 0 = .ok (.bipush 100, 2) := by decide +kernel
theorem dX5_bestGain_2 : decode cX5_bestGain 2 = .ok (.istore_n 1, 1) := by decide +kernel
theorem dX5_bestGain_3 : decode cX5_bestGain 3 = .ok (.bipush 7, 2) := by decide +kernel
theorem dX5_bestGain_5 : decode cX5_bestGain 5 = .ok (.istore_n 2, 1) := by decide +kernel
theorem dX5_bestGain_6 : decode cX5_bestGain 6 = .ok (.bipush (-100), 2) := by decide +kernel
theorem dX5_bestGain_8 : decode cX5_bestGain 8 = .ok (.istore_n 3, 1) := by decide +kernel
theorem dX5_bestGain_9 : decode cX5_bestGain 9 = .ok (.iload_n 3, 1) := by decide +kernel
theorem dX5_bestGain_10 : decode cX5_bestGain 10 = .ok (.bipush 100, 2) := by decide +kernel
theorem dX5_bestGain_12 : decode cX5_bestGain 12 = .ok (.if_icmp .gt 63, 3) := by decide +kernel
theorem dX5_bestGain_15 : decode cX5_bestGain 15 = .ok (.aload_n 0, 1) := by decide +kernel
theorem dX5_bestGain_16 : decode cX5_bestGain 16 = .ok (.iload_n 3, 1) := by decide +kernel
theorem dX5_bestGain_17 : decode cX5_bestGain 17 = .ok (.invokevirtual 58, 3) := by decide +kernel
theorem dX5_bestGain_20 : decode cX5_bestGain 20 = .ok (.istore 4, 2) := by decide +kernel
theorem dX5_bestGain_22 : decode cX5_bestGain 22 = .ok (.iload 4, 2) := by decide +kernel
theorem dX5_bestGain_24 : decode cX5_bestGain 24 = .ok (.iload_n 2, 1) := by decide +kernel
theorem dX5_bestGain_25 : decode cX5_bestGain 25 = .ok (.if_icmp .ne 18, 3) := by decide +kernel
theorem dX5_bestGain_28 : decode cX5_bestGain 28 = .ok (.iload_n 3, 1) := by decide +kernel
theorem dX5_bestGain_29 : decode cX5_bestGain 29 = .ok (.invokestatic 66, 3) := by decide +kernel
theorem dX5_bestGain_32 : decode cX5_bestGain 32 = .ok (.iload_n 1, 1) := by decide +kernel
theorem dX5_bestGain_33 : decode cX5_bestGain 33 = .ok (.invokestatic 66, 3) := by decide +kernel
theorem dX5_bestGain_36 : decode cX5_bestGain 36 = .ok (.if_icmp .ge 7, 3) := by decide +kernel
theorem dX5_bestGain_39 : decode cX5_bestGain 39 = .ok (.iconst 1, 1) := by decide +kernel
theorem dX5_bestGain_40 : decode cX5_bestGain 40 = .ok (.goto 4, 3) := by decide +kernel
theorem dX5_bestGain_43 : decode cX5_bestGain 43 = .ok (.iconst 0, 1) := by decide +kernel
theorem dX5_bestGain_44 : decode cX5_bestGain 44 = .ok (.istore 5, 2) := by decide +kernel
theorem dX5_bestGain_46 : decode cX5_bestGain 46 = .ok (.iload 4, 2) := by decide +kernel
theorem dX5_bestGain_48 : decode cX5_bestGain 48 = .ok (.bipush (-7), 2) := by decide +kernel
theorem dX5_bestGain_50 : decode cX5_bestGain 50 = .ok (.if_icmp .eq 19, 3) := by decide +kernel
theorem dX5_bestGain_53 : decode cX5_bestGain 53 = .ok (.iload 4, 2) := by decide +kernel
theorem dX5_bestGain_55 : decode cX5_bestGain 55 = .ok (.iload_n 2, 1) := by decide +kernel
theorem dX5_bestGain_56 : decode cX5_bestGain 56 = .ok (.if_icmp .lt 8, 3) := by decide +kernel
theorem dX5_bestGain_59 : decode cX5_bestGain 59 = .ok (.iload 5, 2) := by decide +kernel
theorem dX5_bestGain_61 : decode cX5_bestGain 61 = .ok (.ifCond .eq 8, 3) := by decide +kernel
theorem dX5_bestGain_64 : decode cX5_bestGain 64 = .ok (.iload_n 3, 1) := by decide +kernel
theorem dX5_bestGain_65 : decode cX5_bestGain 65 = .ok (.istore_n 1, 1) := by decide +kernel
theorem dX5_bestGain_66 : decode cX5_bestGain 66 = .ok (.iload 4, 2) := by decide +kernel
theorem dX5_bestGain_68 : decode cX5_bestGain 68 = .ok (.istore_n 2, 1) := by decide +kernel
theorem dX5_bestGain_69 : decode cX5_bestGain 69 = .ok (.iinc 3 1, 3) := by decide +kernel
theorem dX5_bestGain_72 : decode cX5_bestGain 72 = .ok (.goto (-63), 3) := by decide +kernel
theorem dX5_bestGain_75 : decode cX5_bestGain 75 = .ok (.iload_n 1, 1) := by decide +kernel
theorem dX5_bestGain_76 : decode cX5_bestGain 76 = .ok (.ireturn, 1) := by decide +kernel
theorem dX6_init_0 : decode cX6_init 0 = .ok (.aload_n 0, 1) := by decide +kernel
theorem dX6_init_1 : decode cX6_init 1 = .ok (.invokespecial 3, 3) := by decide +kernel
theorem dX6_init_4 : decode cX6_init 4 = .ok (.aload_n 0, 1) := by decide +kernel
theorem dX6_init_5 : decode cX6_init 5 = .ok (.bipush 101, 2) := by decide +kernel
theorem dX6_init_7 : decode cX6_init 7 = .ok (.newarray .int, 2) := by decide +kernel
theorem dX6_init_9 : decode cX6_init 9 = .ok (.putfield 11, 3) := by decide +kernel
theorem dX6_init_12 : decode cX6_init 12 = .ok (.aload_n 0, 1) := by decide +kernel
theorem dX6_init_13 : decode cX6_init 13 = .ok (.bipush 101, 2) := by decide +kernel
theorem dX6_init_15 : decode cX6_init 15 = .ok (.newarray .int, 2) := by decide +kernel
theorem dX6_init_17 : decode cX6_init 17 = .ok (.putfield 15, 3) := by decide +kernel
theorem dX6_init_20 : decode cX6_init 20 = .ok (.aload_n 0, 1) := by decide +kernel
theorem dX6_init_21 : decode cX6_init 21 = .ok (.iload_n 1, 1) := by decide +kernel
theorem dX6_init_22 : decode cX6_init 22 = .ok (.putfield 18, 3) := by decide +kernel
theorem dX6_init_25 : decode cX6_init 25 = .ok (.return_, 1) := by decide +kernel
theorem dX6_survey_0 : decode cX6_survey 0 = .ok (.aload_n 0, 1) := by decide +kernel
theorem dX6_survey_1 : decode cX6_survey 1 = .ok (.getfield 22, 3) := by decide +kernel
theorem dX6_survey_4 : decode cX6_survey 4 = .ok (.ifCond .eq 4, 3) := by decide +kernel
theorem dX6_survey_7 : decode cX6_survey 7 = .ok (.return_, 1) := by decide +kernel
theorem dX6_survey_8 : decode cX6_survey 8 = .ok (.aload_n 0, 1) := by decide +kernel
theorem dX6_survey_9 : decode cX6_survey 9 = .ok (.iconst 0, 1) := by decide +kernel
theorem dX6_survey_10 : decode cX6_survey 10 = .ok (.putfield 26, 3) := by decide +kernel
theorem dX6_survey_13 : decode cX6_survey 13 = .ok (.iconst 0, 1) := by decide +kernel
theorem dX6_survey_14 : decode cX6_survey 14 = .ok (.istore_n 3, 1) := by decide +kernel
theorem dX6_survey_15 : decode cX6_survey 15 = .ok (.bipush (-100), 2) := by decide +kernel
theorem dX6_survey_17 : decode cX6_survey 17 = .ok (.istore 4, 2) := by decide +kernel
theorem dX6_survey_19 : decode cX6_survey 19 = .ok (.iload 4, 2) := by decide +kernel
theorem dX6_survey_21 : decode cX6_survey 21 = .ok (.bipush 100, 2) := by decide +kernel
theorem dX6_survey_23 : decode cX6_survey 23 = .ok (.if_icmp .gt 90, 3) := by decide +kernel
theorem dX6_survey_26 : decode cX6_survey 26 = .ok (.aload_n 2, 1) := by decide +kernel
theorem dX6_survey_27 : decode cX6_survey 27 = .ok (.aload_n 1, 1) := by decide +kernel
theorem dX6_survey_28 : decode cX6_survey 28 = .ok (.aload_n 0, 1) := by decide +kernel
theorem dX6_survey_29 : decode cX6_survey 29 = .ok (.getfield 18, 3) := by decide +kernel
theorem dX6_survey_32 : decode cX6_survey 32 = .ok (.iconst 1, 1) := by decide +kernel
theorem dX6_survey_33 : decode cX6_survey 33 = .ok (.iload 4, 2) := by decide +kernel
theorem dX6_survey_35 : decode cX6_survey 35 = .ok (.invokevirtual 29, 3) := by decide +kernel
theorem dX6_survey_38 : decode cX6_survey 38 = .ok (.istore 5, 2) := by decide +kernel
theorem dX6_survey_40 : decode cX6_survey 40 = .ok (.iload 5, 2) := by decide +kernel
theorem dX6_survey_42 : decode cX6_survey 42 = .ok (.ifCond .eq 37, 3) := by decide +kernel
theorem dX6_survey_45 : decode cX6_survey 45 = .ok (.iload_n 3, 1) := by decide +kernel
theorem dX6_survey_46 : decode cX6_survey 46 = .ok (.ifCond .ne 33, 3) := by decide +kernel
theorem dX6_survey_49 : decode cX6_survey 49 = .ok (.aload_n 0, 1) := by decide +kernel
theorem dX6_survey_50 : decode cX6_survey 50 = .ok (.getfield 26, 3) := by decide +kernel
theorem dX6_survey_53 : decode cX6_survey 53 = .ok (.bipush 101, 2) := by decide +kernel
theorem dX6_survey_55 : decode cX6_survey 55 = .ok (.if_icmp .ge 24, 3) := by decide +kernel
theorem dX6_survey_58 : decode cX6_survey 58 = .ok (.aload_n 0, 1) := by decide +kernel
theorem dX6_survey_59 : decode cX6_survey 59 = .ok (.getfield 11, 3) := by decide +kernel
theorem dX6_survey_62 : decode cX6_survey 62 = .ok (.aload_n 0, 1) := by decide +kernel
theorem dX6_survey_63 : decode cX6_survey 63 = .ok (.getfield 26, 3) := by decide +kernel
theorem dX6_survey_66 : decode cX6_survey 66 = .ok (.iload 4, 2) := by decide +kernel
theorem dX6_survey_68 : decode cX6_survey 68 = .ok (.iastore, 1) := by decide +kernel
theorem dX6_survey_69 : decode cX6_survey 69 = .ok (.aload_n 0, 1) := by decide +kernel
theorem dX6_survey_70 : decode cX6_survey 70 = .ok (.dup, 1) := by decide +kernel
theorem dX6_survey_71 : decode cX6_survey 71 = .ok (.getfield 26, 3) := by decide +kernel
theorem dX6_survey_74 : decode cX6_survey 74 = .ok (.iconst 1, 1) := by decide +kernel
theorem dX6_survey_75 : decode cX6_survey 75 = .ok (.iadd, 1) := by decide +kernel
theorem dX6_survey_76 : decode cX6_survey 76 = .ok (.putfield 26, 3) := by decide +kernel
theorem dX6_survey_79 : decode cX6_survey 79 = .ok (.iload 5, 2) := by decide +kernel
theorem dX6_survey_81 : decode cX6_survey 81 = .ok (.ifCond .eq 23, 3) := by decide +kernel
theorem dX6_survey_84 : decode cX6_survey 84 = .ok (.aload_n 0, 1) := by decide +kernel
theorem dX6_survey_85 : decode cX6_survey 85 = .ok (.getfield 26, 3) := by decide +kernel
theorem dX6_survey_88 : decode cX6_survey 88 = .ok (.ifCond .le 16, 3) := by decide +kernel
theorem dX6_survey_91 : decode cX6_survey 91 = .ok (.aload_n 0, 1) := by decide +kernel
theorem dX6_survey_92 : decode cX6_survey 92 = .ok (.getfield 15, 3) := by decide +kernel
theorem dX6_survey_95 : decode cX6_survey 95 = .ok (.aload_n 0, 1) := by decide +kernel
theorem dX6_survey_96 : decode cX6_survey 96 = .ok (.getfield 26, 3) := by decide +kernel
theorem dX6_survey_99 : decode cX6_survey 99 = .ok (.iconst 1, 1) := by decide +kernel
theorem dX6_survey_100 : decode cX6_survey 100 = .ok (.isub, 1) := by decide +kernel
theorem dX6_survey_101 : decode cX6_survey 101 = .ok (.iload 4, 2) := by decide +kernel
theorem dX6_survey_103 : decode cX6_survey 103 = .ok (.iastore, 1) := by decide +kernel
theorem dX6_survey_104 : decode cX6_survey 104 = .ok (.iload 5, 2) := by decide +kernel
theorem dX6_survey_106 : decode cX6_survey 106 = .ok (.istore_n 3, 1) := by decide +kernel
theorem dX6_survey_107 : decode cX6_survey 107 = .ok (.iinc 4 1, 3) := by decide +kernel
theorem dX6_survey_110 : decode cX6_survey 110 = .ok (.goto (-91), 3) := by decide +kernel
theorem dX6_survey_113 : decode cX6_survey 113 = .ok (.aload_n 0, 1) := by decide +kernel
theorem dX6_survey_114 : decode cX6_survey 114 = .ok (.iconst 1, 1) := by decide +kernel
theorem dX6_survey_115 : decode cX6_survey 115 = .ok (.putfield 22, 3) := by decide +kernel
theorem dX6_survey_118 : decode cX6_survey 118 = .ok (.return_, 1) := by decide +kernel
theorem dX6_firstEdge_0 : decode cX6_firstEdge 0 = .ok (.aload_n 0, 1) := by decide +kernel
theorem dX6_firstEdge_1 : decode cX6_firstEdge 1 = .ok (.getfield 11, 3) := by decide +kernel
theorem dX6_firstEdge_4 : decode cX6_firstEdge 4 = .ok (.iload_n 1, 1) := by decide +kernel
theorem dX6_firstEdge_5 : decode cX6_firstEdge 5 = .ok (.iaload, 1) := by decide +kernel
theorem dX6_firstEdge_6 : decode cX6_firstEdge 6 = .ok (.istore 4, 2) := by decide +kernel
theorem dX6_firstEdge_8 : decode cX6_firstEdge 8 = .ok (.iload 4, 2) := by decide +kernel
theorem dX6_firstEdge_10 : decode cX6_firstEdge 10 = .ok (.bipush (-100), 2) := by decide +kernel
theorem dX6_firstEdge_12 : decode cX6_firstEdge 12 = .ok (.if_icmp .ne 9, 3) := by decide +kernel
theorem dX6_firstEdge_15 : decode cX6_firstEdge 15 = .ok (.sipush (-1600), 3) := by decide +kernel
theorem dX6_firstEdge_18 : decode cX6_firstEdge 18 = .ok (.goto 15, 3) := by decide +kernel
theorem dX6_firstEdge_21 : decode cX6_firstEdge 21 = .ok (.aload_n 0, 1) := by decide +kernel
theorem dX6_firstEdge_22 : decode cX6_firstEdge 22 = .ok (.iload 4, 2) := by decide +kernel
theorem dX6_firstEdge_24 : decode cX6_firstEdge 24 = .ok (.iload 4, 2) := by decide +kernel
theorem dX6_firstEdge_26 : decode cX6_firstEdge 26 = .ok (.iconst 1, 1) := by decide +kernel
theorem dX6_firstEdge_27 : decode cX6_firstEdge 27 = .ok (.isub, 1) := by decide +kernel
theorem dX6_firstEdge_28 : decode cX6_firstEdge 28 = .ok (.aload_n 2, 1) := by decide +kernel
theorem dX6_firstEdge_29 : decode cX6_firstEdge 29 = .ok (.aload_n 3, 1) := by decide +kernel
theorem dX6_firstEdge_30 : decode cX6_firstEdge 30 = .ok (.invokevirtual 35, 3) := by decide +kernel
theorem dX6_firstEdge_33 : decode cX6_firstEdge 33 = .ok (.ireturn, 1) := by decide +kernel
theorem dX6_lastEdge_0 : decode cX6_lastEdge 0 = .ok (.aload_n 0, 1) := by decide +kernel
theorem dX6_lastEdge_1 : decode cX6_lastEdge 1 = .ok (.getfield 15, 3) := by decide +kernel
theorem dX6_lastEdge_4 : decode cX6_lastEdge 4 = .ok (.iload_n 1, 1) := by decide +kernel
theorem dX6_lastEdge_5 : decode cX6_lastEdge 5 = .ok (.iaload, 1) := by decide +kernel
theorem dX6_lastEdge_6 : decode cX6_lastEdge 6 = .ok (.istore 4, 2) := by decide +kernel
theorem dX6_lastEdge_8 : decode cX6_lastEdge 8 = .ok (.iload 4, 2) := by decide +kernel
theorem dX6_lastEdge_10 : decode cX6_lastEdge 10 = .ok (.bipush 100, 2) := by decide +kernel
theorem dX6_lastEdge_12 : decode cX6_lastEdge 12 = .ok (.if_icmp .ne 9, 3) := by decide +kernel
theorem dX6_lastEdge_15 : decode cX6_lastEdge 15 = .ok (.sipush 1600, 3) := by decide +kernel
theorem dX6_lastEdge_18 : decode cX6_lastEdge 18 = .ok (.goto 15, 3) := by decide +kernel
theorem dX6_lastEdge_21 : decode cX6_lastEdge 21 = .ok (.aload_n 0, 1) := by decide +kernel
theorem dX6_lastEdge_22 : decode cX6_lastEdge 22 = .ok (.iload 4, 2) := by decide +kernel
theorem dX6_lastEdge_24 : decode cX6_lastEdge 24 = .ok (.iload 4, 2) := by decide +kernel
theorem dX6_lastEdge_26 : decode cX6_lastEdge 26 = .ok (.iconst 1, 1) := by decide +kernel
theorem dX6_lastEdge_27 : decode cX6_lastEdge 27 = .ok (.iadd, 1) := by decide +kernel
theorem dX6_lastEdge_28 : decode cX6_lastEdge 28 = .ok (.aload_n 2, 1) := by decide +kernel
theorem dX6_lastEdge_29 : decode cX6_lastEdge 29 = .ok (.aload_n 3, 1) := by decide +kernel
theorem dX6_lastEdge_30 : decode cX6_lastEdge 30 = .ok (.invokevirtual 35, 3) := by decide +kernel
theorem dX6_lastEdge_33 : decode cX6_lastEdge 33 = .ok (.ireturn, 1) := by decide +kernel
theorem dX6_edge_0 : decode cX6_edge 0 = .ok (.bipush 16, 2) := by decide +kernel
theorem dX6_edge_2 : decode cX6_edge 2 = .ok (.iload_n 1, 1) := by decide +kernel
theorem dX6_edge_3 : decode cX6_edge 3 = .ok (.imul, 1) := by decide +kernel
theorem dX6_edge_4 : decode cX6_edge 4 = .ok (.istore 5, 2) := by decide +kernel
theorem dX6_edge_6 : decode cX6_edge 6 = .ok (.bipush 16, 2) := by decide +kernel
theorem dX6_edge_8 : decode cX6_edge 8 = .ok (.iload_n 2, 1) := by decide +kernel
theorem dX6_edge_9 : decode cX6_edge 9 = .ok (.imul, 1) := by decide +kernel
theorem dX6_edge_10 : decode cX6_edge 10 = .ok (.istore 6, 2) := by decide +kernel
theorem dX6_edge_12 : decode cX6_edge 12 = .ok (.iconst 0, 1) := by decide +kernel
theorem dX6_edge_13 : decode cX6_edge 13 = .ok (.istore 7, 2) := by decide +kernel
theorem dX6_edge_15 : decode cX6_edge 15 = .ok (.iload 7, 2) := by decide +kernel
theorem dX6_edge_17 : decode cX6_edge 17 = .ok (.iconst 4, 1) := by decide +kernel
theorem dX6_edge_18 : decode cX6_edge 18 = .ok (.if_icmp .ge 46, 3) := by decide +kernel
theorem dX6_edge_21 : decode cX6_edge 21 = .ok (.iload 5, 2) := by decide +kernel
theorem dX6_edge_23 : decode cX6_edge 23 = .ok (.iload 6, 2) := by decide +kernel
theorem dX6_edge_25 : decode cX6_edge 25 = .ok (.iadd, 1) := by decide +kernel
theorem dX6_edge_26 : decode cX6_edge 26 = .ok (.iconst 2, 1) := by decide +kernel
theorem dX6_edge_27 : decode cX6_edge 27 = .ok (.idiv, 1) := by decide +kernel
theorem dX6_edge_28 : decode cX6_edge 28 = .ok (.istore 8, 2) := by decide +kernel
theorem dX6_edge_30 : decode cX6_edge 30 = .ok (.aload 4, 2) := by decide +kernel
theorem dX6_edge_32 : decode cX6_edge 32 = .ok (.aload_n 3, 1) := by decide +kernel
theorem dX6_edge_33 : decode cX6_edge 33 = .ok (.aload_n 0, 1) := by decide +kernel
theorem dX6_edge_34 : decode cX6_edge 34 = .ok (.getfield 18, 3) := by decide +kernel
theorem dX6_edge_37 : decode cX6_edge 37 = .ok (.bipush 16, 2) := by decide +kernel
theorem dX6_edge_39 : decode cX6_edge 39 = .ok (.iload 8, 2) := by decide +kernel
theorem dX6_edge_41 : decode cX6_edge 41 = .ok (.invokevirtual 29, 3) := by decide +kernel
theorem dX6_edge_44 : decode cX6_edge 44 = .ok (.ifCond .eq 10, 3) := by decide +kernel
theorem dX6_edge_47 : decode cX6_edge 47 = .ok (.iload 8, 2) := by decide +kernel
theorem dX6_edge_49 : decode cX6_edge 49 = .ok (.istore 5, 2) := by decide +kernel
theorem dX6_edge_51 : decode cX6_edge 51 = .ok (.goto 7, 3) := by decide +kernel
theorem dX6_edge_54 : decode cX6_edge 54 = .ok (.iload 8, 2) := by decide +kernel
theorem dX6_edge_56 : decode cX6_edge 56 = .ok (.istore 6, 2) := by decide +kernel
theorem dX6_edge_58 : decode cX6_edge 58 = .ok (.iinc 7 1, 3) := by decide +kernel
theorem dX6_edge_61 : decode cX6_edge 61 = .ok (.goto (-46), 3) := by decide +kernel
theorem dX6_edge_64 : decode cX6_edge 64 = .ok (.iload 5, 2) := by decide +kernel
theorem dX6_edge_66 : decode cX6_edge 66 = .ok (.ireturn, 1) := by decide +kernel
theorem dX6_closestTo_0 : decode cX6_closestTo 0 = .ok (.iconst (-1), 1) := by decide +kernel
theorem dX6_closestTo_1 : decode cX6_closestTo 1 = .ok (.istore_n 2, 1) := by decide +kernel
theorem dX6_closestTo_2 : decode cX6_closestTo 2 = .ok (.sipush 201, 3) := by decide +kernel
theorem dX6_closestTo_5 : decode cX6_closestTo 5 = .ok (.istore_n 3, 1) := by decide +kernel
theorem dX6_closestTo_6 : decode cX6_closestTo 6 = .ok (.iconst 0, 1) := by decide +kernel
theorem dX6_closestTo_7 : decode cX6_closestTo 7 = .ok (.istore 4, 2) := by decide +kernel
theorem dX6_closestTo_9 : decode cX6_closestTo 9 = .ok (.iload 4, 2) := by decide +kernel
theorem dX6_closestTo_11 : decode cX6_closestTo 11 = .ok (.aload_n 0, 1) := by decide +kernel
theorem dX6_closestTo_12 : decode cX6_closestTo 12 = .ok (.getfield 26, 3) := by decide +kernel
theorem dX6_closestTo_15 : decode cX6_closestTo 15 = .ok (.if_icmp .ge 48, 3) := by decide +kernel
theorem dX6_closestTo_18 : decode cX6_closestTo 18 = .ok (.iconst 0, 1) := by decide +kernel
theorem dX6_closestTo_19 : decode cX6_closestTo 19 = .ok (.aload_n 0, 1) := by decide +kernel
theorem dX6_closestTo_20 : decode cX6_closestTo 20 = .ok (.getfield 11, 3) := by decide +kernel
theorem dX6_closestTo_23 : decode cX6_closestTo 23 = .ok (.iload 4, 2) := by decide +kernel
theorem dX6_closestTo_25 : decode cX6_closestTo 25 = .ok (.iaload, 1) := by decide +kernel
theorem dX6_closestTo_26 : decode cX6_closestTo 26 = .ok (.iload_n 1, 1) := by decide +kernel
theorem dX6_closestTo_27 : decode cX6_closestTo 27 = .ok (.isub, 1) := by decide +kernel
theorem dX6_closestTo_28 : decode cX6_closestTo 28 = .ok (.iload_n 1, 1) := by decide +kernel
theorem dX6_closestTo_29 : decode cX6_closestTo 29 = .ok (.aload_n 0, 1) := by decide +kernel
theorem dX6_closestTo_30 : decode cX6_closestTo 30 = .ok (.getfield 15, 3) := by decide +kernel
theorem dX6_closestTo_33 : decode cX6_closestTo 33 = .ok (.iload 4, 2) := by decide +kernel
theorem dX6_closestTo_35 : decode cX6_closestTo 35 = .ok (.iaload, 1) := by decide +kernel
theorem dX6_closestTo_36 : decode cX6_closestTo 36 = .ok (.isub, 1) := by decide +kernel
theorem dX6_closestTo_37 : decode cX6_closestTo 37 = .ok (.invokestatic 39, 3) := by decide +kernel
theorem dX6_closestTo_40 : decode cX6_closestTo 40 = .ok (.invokestatic 39, 3) := by decide +kernel
theorem dX6_closestTo_43 : decode cX6_closestTo 43 = .ok (.istore 5, 2) := by decide +kernel
theorem dX6_closestTo_45 : decode cX6_closestTo 45 = .ok (.iload 5, 2) := by decide +kernel
theorem dX6_closestTo_47 : decode cX6_closestTo 47 = .ok (.iload_n 3, 1) := by decide +kernel
theorem dX6_closestTo_48 : decode cX6_closestTo 48 = .ok (.if_icmp .ge 9, 3) := by decide +kernel
theorem dX6_closestTo_51 : decode cX6_closestTo 51 = .ok (.iload 5, 2) := by decide +kernel
theorem dX6_closestTo_53 : decode cX6_closestTo 53 = .ok (.istore_n 3, 1) := by decide +kernel
theorem dX6_closestTo_54 : decode cX6_closestTo 54 = .ok (.iload 4, 2) := by decide +kernel
theorem dX6_closestTo_56 : decode cX6_closestTo 56 = .ok (.istore_n 2, 1) := by decide +kernel
theorem dX6_closestTo_57 : decode cX6_closestTo 57 = .ok (.iinc 4 1, 3) := by decide +kernel
theorem dX6_closestTo_60 : decode cX6_closestTo 60 = .ok (.goto (-51), 3) := by decide +kernel
theorem dX6_closestTo_63 : decode cX6_closestTo 63 = .ok (.iload_n 2, 1) := by decide +kernel
theorem dX6_closestTo_64 : decode cX6_closestTo 64 = .ok (.ireturn, 1) := by decide +kernel
theorem dX7_init_0 : decode cX7_init 0 = .ok (.aload_n 0, 1) := by decide +kernel
theorem dX7_init_1 : decode cX7_init 1 = .ok (.invokespecial 3, 3) := by decide +kernel
theorem dX7_init_4 : decode cX7_init 4 = .ok (.aload_n 0, 1) := by decide +kernel
theorem dX7_init_5 : decode cX7_init 5 = .ok (.bipush 7, 2) := by decide +kernel
theorem dX7_init_7 : decode cX7_init 7 = .ok (.newarray .long, 2) := by decide +kernel
theorem dX7_init_9 : decode cX7_init 9 = .ok (.putfield 9, 3) := by decide +kernel
theorem dX7_init_12 : decode cX7_init 12 = .ok (.aload_n 0, 1) := by decide +kernel
theorem dX7_init_13 : decode cX7_init 13 = .ok (.new 15, 3) := by decide +kernel
theorem dX7_init_16 : decode cX7_init 16 = .ok (.dup, 1) := by decide +kernel
theorem dX7_init_17 : decode cX7_init 17 = .ok (.invokespecial 17, 3) := by decide +kernel
theorem dX7_init_20 : decode cX7_init 20 = .ok (.putfield 18, 3) := by decide +kernel
theorem dX7_init_23 : decode cX7_init 23 = .ok (.return_, 1) := by decide +kernel
theorem dX7_holds_0 : decode cX7_holds 0 = .ok (.aload_n 1, 1) := by decide +kernel
theorem dX7_holds_1 : decode cX7_holds 1 = .ok (.getfield 22, 3) := by decide +kernel
theorem dX7_holds_4 : decode cX7_holds 4 = .ok (.invokestatic 27, 3) := by decide +kernel
theorem dX7_holds_7 : decode cX7_holds 7 = .ok (.aload_n 1, 1) := by decide +kernel
theorem dX7_holds_8 : decode cX7_holds 8 = .ok (.getfield 33, 3) := by decide +kernel
theorem dX7_holds_11 : decode cX7_holds 11 = .ok (.invokestatic 27, 3) := by decide +kernel
theorem dX7_holds_14 : decode cX7_holds 14 = .ok (.invokestatic 36, 3) := by decide +kernel
theorem dX7_holds_17 : decode cX7_holds 17 = .ok (.istore 5, 2) := by decide +kernel
theorem dX7_holds_19 : decode cX7_holds 19 = .ok (.aload_n 1, 1) := by decide +kernel
theorem dX7_holds_20 : decode cX7_holds 20 = .ok (.getfield 22, 3) := by decide +kernel
theorem dX7_holds_23 : decode cX7_holds 23 = .ok (.iload_n 3, 1) := by decide +kernel
theorem dX7_holds_24 : decode cX7_holds 24 = .ok (.aload_n 1, 1) := by decide +kernel
theorem dX7_holds_25 : decode cX7_holds 25 = .ok (.getfield 33, 3) := by decide +kernel
theorem dX7_holds_28 : decode cX7_holds 28 = .ok (.iload 4, 2) := by decide +kernel
theorem dX7_holds_30 : decode cX7_holds 30 = .ok (.aload_n 0, 1) := by decide +kernel
theorem dX7_holds_31 : decode cX7_holds 31 = .ok (.getfield 9, 3) := by decide +kernel
theorem dX7_holds_34 : decode cX7_holds 34 = .ok (.invokestatic 42, 3) := by decide +kernel
theorem dX7_holds_37 : decode cX7_holds 37 = .ok (.iload 5, 2) := by decide +kernel
theorem dX7_holds_39 : decode cX7_holds 39 = .ok (.iconst 1, 1) := by decide +kernel
theorem dX7_holds_40 : decode cX7_holds 40 = .ok (.if_icmp .lt 15, 3) := by decide +kernel
theorem dX7_holds_43 : decode cX7_holds 43 = .ok (.aload_n 0, 1) := by decide +kernel
theorem dX7_holds_44 : decode cX7_holds 44 = .ok (.getfield 9, 3) := by decide +kernel
theorem dX7_holds_47 : decode cX7_holds 47 = .ok (.invokestatic 27, 3) := by decide +kernel
theorem dX7_holds_50 : decode cX7_holds 50 = .ok (.iload 5, 2) := by decide +kernel
theorem dX7_holds_52 : decode cX7_holds 52 = .ok (.if_icmp .eq 5, 3) := by decide +kernel
theorem dX7_holds_55 : decode cX7_holds 55 = .ok (.iconst 0, 1) := by decide +kernel
theorem dX7_holds_56 : decode cX7_holds 56 = .ok (.ireturn, 1) := by decide +kernel
theorem dX7_holds_57 : decode cX7_holds 57 = .ok (.aload_n 0, 1) := by decide +kernel
theorem dX7_holds_58 : decode cX7_holds 58 = .ok (.getfield 18, 3) := by decide +kernel
theorem dX7_holds_61 : decode cX7_holds 61 = .ok (.aload_n 0, 1) := by decide +kernel
theorem dX7_holds_62 : decode cX7_holds 62 = .ok (.getfield 9, 3) := by decide +kernel
theorem dX7_holds_65 : decode cX7_holds 65 = .ok (.iload_n 2, 1) := by decide +kernel
theorem dX7_holds_66 : decode cX7_holds 66 = .ok (.ifCond .ne 7, 3) := by decide +kernel
theorem dX7_holds_69 : decode cX7_holds 69 = .ok (.iconst 0, 1) := by decide +kernel
theorem dX7_holds_70 : decode cX7_holds 70 = .ok (.goto 4, 3) := by decide +kernel
theorem dX7_holds_73 : decode cX7_holds 73 = .ok (.iconst 3, 1) := by decide +kernel
theorem dX7_holds_74 : decode cX7_holds 74 = .ok (.invokevirtual 46, 3) := by decide +kernel
theorem dX7_holds_77 : decode cX7_holds 77 = .ok (.aload_n 0, 1) := by decide +kernel
theorem dX7_holds_78 : decode cX7_holds 78 = .ok (.getfield 18, 3) := by decide +kernel
theorem dX7_holds_81 : decode cX7_holds 81 = .ok (.invokevirtual 50, 3) := by decide +kernel
theorem dX7_holds_84 : decode cX7_holds 84 = .ok (.aload_n 0, 1) := by decide +kernel
theorem dX7_holds_85 : decode cX7_holds 85 = .ok (.getfield 18, 3) := by decide +kernel
theorem dX7_holds_88 : decode cX7_holds 88 = .ok (.getfield 53, 3) := by decide +kernel
theorem dX7_holds_91 : decode cX7_holds 91 = .ok (.ifCond .ne 13, 3) := by decide +kernel
theorem dX7_holds_94 : decode cX7_holds 94 = .ok (.aload_n 0, 1) := by decide +kernel
theorem dX7_holds_95 : decode cX7_holds 95 = .ok (.getfield 18, 3) := by decide +kernel
theorem dX7_holds_98 : decode cX7_holds 98 = .ok (.getfield 57, 3) := by decide +kernel
theorem dX7_holds_101 : decode cX7_holds 101 = .ok (.ifCond .eq 5, 3) := by decide +kernel
theorem dX7_holds_104 : decode cX7_holds 104 = .ok (.iconst 0, 1) := by decide +kernel
theorem dX7_holds_105 : decode cX7_holds 105 = .ok (.ireturn, 1) := by decide +kernel
theorem dX7_holds_106 : decode cX7_holds 106 = .ok (.aload_n 0, 1) := by decide +kernel
theorem dX7_holds_107 : decode cX7_holds 107 = .ok (.getfield 18, 3) := by decide +kernel
theorem dX7_holds_110 : decode cX7_holds 110 = .ok (.invokevirtual 61, 3) := by decide +kernel
theorem dX7_holds_113 : decode cX7_holds 113 = .ok (.ifCond .ne 17, 3) := by decide +kernel
theorem dX7_holds_116 : decode cX7_holds 116 = .ok (.aload_n 0, 1) := by decide +kernel
theorem dX7_holds_117 : decode cX7_holds 117 = .ok (.getfield 18, 3) := by decide +kernel
theorem dX7_holds_120 : decode cX7_holds 120 = .ok (.invokevirtual 65, 3) := by decide +kernel
theorem dX7_holds_123 : decode cX7_holds 123 = .ok (.ifCond .ne 7, 3) := by decide +kernel
theorem dX7_holds_126 : decode cX7_holds 126 = .ok (.iconst 1, 1) := by decide +kernel
theorem dX7_holds_127 : decode cX7_holds 127 = .ok (.goto 4, 3) := by decide +kernel
theorem dX7_holds_130 : decode cX7_holds 130 = .ok (.iconst 0, 1) := by decide +kernel
theorem dX7_holds_131 : decode cX7_holds 131 = .ok (.ireturn, 1) := by decide +kernel
theorem dX8_init_0 : decode cX8_init 0 = .ok (.aload_n 0, 1) := by decide +kernel
theorem dX8_init_1 : decode cX8_init 1 = .ok (.invokespecial 3, 3) := by decide +kernel
theorem dX8_init_4 : decode cX8_init 4 = .ok (.aload_n 0, 1) := by decide +kernel
theorem dX8_init_5 : decode cX8_init 5 = .ok (.bipush 7, 2) := by decide +kernel
theorem dX8_init_7 : decode cX8_init 7 = .ok (.newarray .long, 2) := by decide +kernel
theorem dX8_init_9 : decode cX8_init 9 = .ok (.putfield 9, 3) := by decide +kernel
theorem dX8_init_12 : decode cX8_init 12 = .ok (.aload_n 0, 1) := by decide +kernel
theorem dX8_init_13 : decode cX8_init 13 = .ok (.bipush 7, 2) := by decide +kernel
theorem dX8_init_15 : decode cX8_init 15 = .ok (.newarray .long, 2) := by decide +kernel
theorem dX8_init_17 : decode cX8_init 17 = .ok (.putfield 15, 3) := by decide +kernel
theorem dX8_init_20 : decode cX8_init 20 = .ok (.aload_n 0, 1) := by decide +kernel
theorem dX8_init_21 : decode cX8_init 21 = .ok (.bipush 7, 2) := by decide +kernel
theorem dX8_init_23 : decode cX8_init 23 = .ok (.iconst 4, 1) := by decide +kernel
theorem dX8_init_24 : decode cX8_init 24 = .ok (.multianewarray 18 2, 4) := by decide +kernel
theorem dX8_init_28 : decode cX8_init 28 = .ok (.putfield 20, 3) := by decide +kernel
theorem dX8_init_31 : decode cX8_init 31 = .ok (.aload_n 0, 1) := by decide +kernel
theorem dX8_init_32 : decode cX8_init 32 = .ok (.bipush 7, 2) := by decide +kernel
theorem dX8_init_34 : decode cX8_init 34 = .ok (.newarray .int, 2) := by decide +kernel
theorem dX8_init_36 : decode cX8_init 36 = .ok (.putfield 23, 3) := by decide +kernel
theorem dX8_init_39 : decode cX8_init 39 = .ok (.aload_n 0, 1) := by decide +kernel
theorem dX8_init_40 : decode cX8_init 40 = .ok (.iconst (-1), 1) := by decide +kernel
theorem dX8_init_41 : decode cX8_init 41 = .ok (.putfield 27, 3) := by decide +kernel
theorem dX8_init_44 : decode cX8_init 44 = .ok (.return_, 1) := by decide +kernel
theorem dX8_shape_0 : decode cX8_shape 0 = .ok (.aload_n 1, 1) := by decide +kernel
theorem dX8_shape_1 : decode cX8_shape 1 = .ok (.invokestatic 31, 3) := by decide +kernel
theorem dX8_shape_4 : decode cX8_shape 4 = .ok (.istore_n 3, 1) := by decide +kernel
theorem dX8_shape_5 : decode cX8_shape 5 = .ok (.aload_n 1, 1) := by decide +kernel
theorem dX8_shape_6 : decode cX8_shape 6 = .ok (.iconst 0, 1) := by decide +kernel
theorem dX8_shape_7 : decode cX8_shape 7 = .ok (.aload_n 0, 1) := by decide +kernel
theorem dX8_shape_8 : decode cX8_shape 8 = .ok (.getfield 9, 3) := by decide +kernel
theorem dX8_shape_11 : decode cX8_shape 11 = .ok (.iconst 0, 1) := by decide +kernel
theorem dX8_shape_12 : decode cX8_shape 12 = .ok (.bipush 7, 2) := by decide +kernel
theorem dX8_shape_14 : decode cX8_shape 14 = .ok (.invokestatic 37, 3) := by decide +kernel
theorem dX8_shape_17 : decode cX8_shape 17 = .ok (.iload_n 2, 1) := by decide +kernel
theorem dX8_shape_18 : decode cX8_shape 18 = .ok (.iconst 1, 1) := by decide +kernel
theorem dX8_shape_19 : decode cX8_shape 19 = .ok (.if_icmp .ne 10, 3) := by decide +kernel
theorem dX8_shape_22 : decode cX8_shape 22 = .ok (.aload_n 0, 1) := by decide +kernel
theorem dX8_shape_23 : decode cX8_shape 23 = .ok (.invokevirtual 43, 3) := by decide +kernel
theorem dX8_shape_26 : decode cX8_shape 26 = .ok (.goto 44, 3) := by decide +kernel
theorem dX8_shape_29 : decode cX8_shape 29 = .ok (.iload_n 2, 1) := by decide +kernel
theorem dX8_shape_30 : decode cX8_shape 30 = .ok (.iconst 2, 1) := by decide +kernel
theorem dX8_shape_31 : decode cX8_shape 31 = .ok (.if_icmp .ne 12, 3) := by decide +kernel
theorem dX8_shape_34 : decode cX8_shape 34 = .ok (.aload_n 0, 1) := by decide +kernel
theorem dX8_shape_35 : decode cX8_shape 35 = .ok (.aload_n 1, 1) := by decide +kernel
theorem dX8_shape_36 : decode cX8_shape 36 = .ok (.iload_n 3, 1) := by decide +kernel
theorem dX8_shape_37 : decode cX8_shape 37 = .ok (.invokevirtual 46, 3) := by decide +kernel
theorem dX8_shape_40 : decode cX8_shape 40 = .ok (.goto 30, 3) := by decide +kernel
theorem dX8_shape_43 : decode cX8_shape 43 = .ok (.iload_n 2, 1) := by decide +kernel
theorem dX8_shape_44 : decode cX8_shape 44 = .ok (.iconst 3, 1) := by decide +kernel
theorem dX8_shape_45 : decode cX8_shape 45 = .ok (.if_icmp .ne 12, 3) := by decide +kernel
theorem dX8_shape_48 : decode cX8_shape 48 = .ok (.aload_n 0, 1) := by decide +kernel
theorem dX8_shape_49 : decode cX8_shape 49 = .ok (.aload_n 1, 1) := by decide +kernel
theorem dX8_shape_50 : decode cX8_shape 50 = .ok (.iload_n 3, 1) := by decide +kernel
theorem dX8_shape_51 : decode cX8_shape 51 = .ok (.invokevirtual 50, 3) := by decide +kernel
theorem dX8_shape_54 : decode cX8_shape 54 = .ok (.goto 16, 3) := by decide +kernel
theorem dX8_shape_57 : decode cX8_shape 57 = .ok (.iload_n 2, 1) := by decide +kernel
theorem dX8_shape_58 : decode cX8_shape 58 = .ok (.ifCond .eq 12, 3) := by decide +kernel
theorem dX8_shape_61 : decode cX8_shape 61 = .ok (.aload_n 0, 1) := by decide +kernel
theorem dX8_shape_62 : decode cX8_shape 62 = .ok (.iload_n 2, 1) := by decide +kernel
theorem dX8_shape_63 : decode cX8_shape 63 = .ok (.bipush 30, 2) := by decide +kernel
theorem dX8_shape_65 : decode cX8_shape 65 = .ok (.isub, 1) := by decide +kernel
theorem dX8_shape_66 : decode cX8_shape 66 = .ok (.iload_n 3, 1) := by decide +kernel
theorem dX8_shape_67 : decode cX8_shape 67 = .ok (.invokevirtual 53, 3) := by decide +kernel
theorem dX8_shape_70 : decode cX8_shape 70 = .ok (.aload_n 0, 1) := by decide +kernel
theorem dX8_shape_71 : decode cX8_shape 71 = .ok (.aload_n 0, 1) := by decide +kernel
theorem dX8_shape_72 : decode cX8_shape 72 = .ok (.getfield 9, 3) := by decide +kernel
theorem dX8_shape_75 : decode cX8_shape 75 = .ok (.invokestatic 31, 3) := by decide +kernel
theorem dX8_shape_78 : decode cX8_shape 78 = .ok (.putfield 27, 3) := by decide +kernel
theorem dX8_shape_81 : decode cX8_shape 81 = .ok (.aload_n 0, 1) := by decide +kernel
theorem dX8_shape_82 : decode cX8_shape 82 = .ok (.iload_n 3, 1) := by decide +kernel
theorem dX8_shape_83 : decode cX8_shape 83 = .ok (.aload_n 0, 1) := by decide +kernel
theorem dX8_shape_84 : decode cX8_shape 84 = .ok (.getfield 27, 3) := by decide +kernel
theorem dX8_shape_87 : decode cX8_shape 87 = .ok (.isub, 1) := by decide +kernel
theorem dX8_shape_88 : decode cX8_shape 88 = .ok (.putfield 57, 3) := by decide +kernel
theorem dX8_shape_91 : decode cX8_shape 91 = .ok (.return_, 1) := by decide +kernel
theorem dX8_mirror_0 : decode cX8_mirror 0 = .ok (.iconst 1, 1) := by decide +kernel
theorem dX8_mirror_1 : decode cX8_mirror 1 = .ok (.istore_n 1, 1) := by decide +kernel
theorem dX8_mirror_2 : decode cX8_mirror 2 = .ok (.iload_n 1, 1) := by decide +kernel
theorem dX8_mirror_3 : decode cX8_mirror 3 = .ok (.bipush 7, 2) := by decide +kernel
theorem dX8_mirror_5 : decode cX8_mirror 5 = .ok (.if_icmp .ge 22, 3) := by decide +kernel
theorem dX8_mirror_8 : decode cX8_mirror 8 = .ok (.aload_n 0, 1) := by decide +kernel
theorem dX8_mirror_9 : decode cX8_mirror 9 = .ok (.getfield 9, 3) := by decide +kernel
theorem dX8_mirror_12 : decode cX8_mirror 12 = .ok (.iload_n 1, 1) := by decide +kernel
theorem dX8_mirror_13 : decode cX8_mirror 13 = .ok (.aload_n 0, 1) := by decide +kernel
theorem dX8_mirror_14 : decode cX8_mirror 14 = .ok (.getfield 9, 3) := by decide +kernel
theorem dX8_mirror_17 : decode cX8_mirror 17 = .ok (.iload_n 1, 1) := by decide +kernel
theorem dX8_mirror_18 : decode cX8_mirror 18 = .ok (.laload, 1) := by decide +kernel
theorem dX8_mirror_19 : decode cX8_mirror 19 = .ok (.lneg, 1) := by decide +kernel
theorem dX8_mirror_20 : decode cX8_mirror 20 = .ok (.lastore, 1) := by decide +kernel
theorem dX8_mirror_21 : decode cX8_mirror 21 = .ok (.iinc 1 2, 3) := by decide +kernel
theorem dX8_mirror_24 : decode cX8_mirror 24 = .ok (.goto (-22), 3) := by decide +kernel
theorem dX8_mirror_27 : decode cX8_mirror 27 = .ok (.return_, 1) := by decide +kernel
theorem dX8_turn_0 : decode cX8_turn 0 = .ok (.iconst 0, 1) := by decide +kernel
theorem dX8_turn_1 : decode cX8_turn 1 = .ok (.istore_n 3, 1) := by decide +kernel
theorem dX8_turn_2 : decode cX8_turn 2 = .ok (.iload_n 3, 1) := by decide +kernel
theorem dX8_turn_3 : decode cX8_turn 3 = .ok (.iload_n 2, 1) := by decide +kernel
theorem dX8_turn_4 : decode cX8_turn 4 = .ok (.if_icmp .gt 20, 3) := by decide +kernel
theorem dX8_turn_7 : decode cX8_turn 7 = .ok (.aload_n 0, 1) := by decide +kernel
theorem dX8_turn_8 : decode cX8_turn 8 = .ok (.getfield 9, 3) := by decide +kernel
theorem dX8_turn_11 : decode cX8_turn 11 = .ok (.iload_n 3, 1) := by decide +kernel
theorem dX8_turn_12 : decode cX8_turn 12 = .ok (.aload_n 1, 1) := by decide +kernel
theorem dX8_turn_13 : decode cX8_turn 13 = .ok (.iload_n 2, 1) := by decide +kernel
theorem dX8_turn_14 : decode cX8_turn 14 = .ok (.iload_n 3, 1) := by decide +kernel
theorem dX8_turn_15 : decode cX8_turn 15 = .ok (.isub, 1) := by decide +kernel
theorem dX8_turn_16 : decode cX8_turn 16 = .ok (.laload, 1) := by decide +kernel
theorem dX8_turn_17 : decode cX8_turn 17 = .ok (.lastore, 1) := by decide +kernel
theorem dX8_turn_18 : decode cX8_turn 18 = .ok (.iinc 3 1, 3) := by decide +kernel
theorem dX8_turn_21 : decode cX8_turn 21 = .ok (.goto (-19), 3) := by decide +kernel
theorem dX8_turn_24 : decode cX8_turn 24 = .ok (.return_, 1) := by decide +kernel
theorem dX8_carry_0 : decode cX8_carry 0 = .ok (.iconst 0, 1) := by decide +kernel
theorem dX8_carry_1 : decode cX8_carry 1 = .ok (.istore_n 3, 1) := by decide +kernel
theorem dX8_carry_2 : decode cX8_carry 2 = .ok (.iload_n 3, 1) := by decide +kernel
theorem dX8_carry_3 : decode cX8_carry 3 = .ok (.bipush 7, 2) := by decide +kernel
theorem dX8_carry_5 : decode cX8_carry 5 = .ok (.if_icmp .ge 23, 3) := by decide +kernel
theorem dX8_carry_8 : decode cX8_carry 8 = .ok (.aload_n 0, 1) := by decide +kernel
theorem dX8_carry_9 : decode cX8_carry 9 = .ok (.getfield 9, 3) := by decide +kernel
theorem dX8_carry_12 : decode cX8_carry 12 = .ok (.iload_n 3, 1) := by decide +kernel
theorem dX8_carry_13 : decode cX8_carry 13 = .ok (.lconst 0, 1) := by decide +kernel
theorem dX8_carry_14 : decode cX8_carry 14 = .ok (.lastore, 1) := by decide +kernel
theorem dX8_carry_15 : decode cX8_carry 15 = .ok (.aload_n 0, 1) := by decide +kernel
theorem dX8_carry_16 : decode cX8_carry 16 = .ok (.getfield 15, 3) := by decide +kernel
theorem dX8_carry_19 : decode cX8_carry 19 = .ok (.iload_n 3, 1) := by decide +kernel
theorem dX8_carry_20 : decode cX8_carry 20 = .ok (.lconst 0, 1) := by decide +kernel
theorem dX8_carry_21 : decode cX8_carry 21 = .ok (.lastore, 1) := by decide +kernel
theorem dX8_carry_22 : decode cX8_carry 22 = .ok (.iinc 3 1, 3) := by decide +kernel
theorem dX8_carry_25 : decode cX8_carry 25 = .ok (.goto (-23), 3) := by decide +kernel
theorem dX8_carry_28 : decode cX8_carry 28 = .ok (.aload_n 0, 1) := by decide +kernel
theorem dX8_carry_29 : decode cX8_carry 29 = .ok (.getfield 15, 3) := by decide +kernel
theorem dX8_carry_32 : decode cX8_carry 32 = .ok (.iconst 0, 1) := by decide +kernel
theorem dX8_carry_33 : decode cX8_carry 33 = .ok (.lconst 1, 1) := by decide +kernel
theorem dX8_carry_34 : decode cX8_carry 34 = .ok (.lastore, 1) := by decide +kernel
theorem dX8_carry_35 : decode cX8_carry 35 = .ok (.iload_n 2, 1) := by decide +kernel
theorem dX8_carry_36 : decode cX8_carry 36 = .ok (.istore_n 3, 1) := by decide +kernel
theorem dX8_carry_37 : decode cX8_carry 37 = .ok (.iload_n 3, 1) := by decide +kernel
theorem dX8_carry_38 : decode cX8_carry 38 = .ok (.ifCond .lt 62, 3) := by decide +kernel
theorem dX8_carry_41 : decode cX8_carry 41 = .ok (.aload_n 0, 1) := by decide +kernel
theorem dX8_carry_42 : decode cX8_carry 42 = .ok (.getfield 9, 3) := by decide +kernel
theorem dX8_carry_45 : decode cX8_carry 45 = .ok (.iconst 1, 1) := by decide +kernel
theorem dX8_carry_46 : decode cX8_carry 46 = .ok (.invokestatic 60, 3) := by decide +kernel
theorem dX8_carry_49 : decode cX8_carry 49 = .ok (.iconst 0, 1) := by decide +kernel
theorem dX8_carry_50 : decode cX8_carry 50 = .ok (.istore 4, 2) := by decide +kernel
theorem dX8_carry_52 : decode cX8_carry 52 = .ok (.iload 4, 2) := by decide +kernel
theorem dX8_carry_54 : decode cX8_carry 54 = .ok (.bipush 7, 2) := by decide +kernel
theorem dX8_carry_56 : decode cX8_carry 56 = .ok (.if_icmp .ge 30, 3) := by decide +kernel
theorem dX8_carry_59 : decode cX8_carry 59 = .ok (.aload_n 0, 1) := by decide +kernel
theorem dX8_carry_60 : decode cX8_carry 60 = .ok (.getfield 9, 3) := by decide +kernel
theorem dX8_carry_63 : decode cX8_carry 63 = .ok (.iload 4, 2) := by decide +kernel
theorem dX8_carry_65 : decode cX8_carry 65 = .ok (.dup2, 1) := by decide +kernel
theorem dX8_carry_66 : decode cX8_carry 66 = .ok (.laload, 1) := by decide +kernel
theorem dX8_carry_67 : decode cX8_carry 67 = .ok (.aload_n 1, 1) := by decide +kernel
theorem dX8_carry_68 : decode cX8_carry 68 = .ok (.iload_n 3, 1) := by decide +kernel
theorem dX8_carry_69 : decode cX8_carry 69 = .ok (.laload, 1) := by decide +kernel
theorem dX8_carry_70 : decode cX8_carry 70 = .ok (.aload_n 0, 1) := by decide +kernel
theorem dX8_carry_71 : decode cX8_carry 71 = .ok (.getfield 15, 3) := by decide +kernel
theorem dX8_carry_74 : decode cX8_carry 74 = .ok (.iload 4, 2) := by decide +kernel
theorem dX8_carry_76 : decode cX8_carry 76 = .ok (.laload, 1) := by decide +kernel
theorem dX8_carry_77 : decode cX8_carry 77 = .ok (.lmul, 1) := by decide +kernel
theorem dX8_carry_78 : decode cX8_carry 78 = .ok (.ladd, 1) := by decide +kernel
theorem dX8_carry_79 : decode cX8_carry 79 = .ok (.lastore, 1) := by decide +kernel
theorem dX8_carry_80 : decode cX8_carry 80 = .ok (.iinc 4 1, 3) := by decide +kernel
theorem dX8_carry_83 : decode cX8_carry 83 = .ok (.goto (-31), 3) := by decide +kernel
theorem dX8_carry_86 : decode cX8_carry 86 = .ok (.aload_n 0, 1) := by decide +kernel
theorem dX8_carry_87 : decode cX8_carry 87 = .ok (.getfield 15, 3) := by decide +kernel
theorem dX8_carry_90 : decode cX8_carry 90 = .ok (.iconst (-1), 1) := by decide +kernel
theorem dX8_carry_91 : decode cX8_carry 91 = .ok (.invokestatic 60, 3) := by decide +kernel
theorem dX8_carry_94 : decode cX8_carry 94 = .ok (.iinc 3 (-1), 3) := by decide +kernel
theorem dX8_carry_97 : decode cX8_carry 97 = .ok (.goto (-60), 3) := by decide +kernel
theorem dX8_carry_100 : decode cX8_carry 100 = .ok (.return_, 1) := by decide +kernel
theorem dX8_shift_0 : decode cX8_shift 0 = .ok (.iconst 0, 1) := by decide +kernel
theorem dX8_shift_1 : decode cX8_shift 1 = .ok (.istore_n 3, 1) := by decide +kernel
theorem dX8_shift_2 : decode cX8_shift 2 = .ok (.iload_n 3, 1) := by decide +kernel
theorem dX8_shift_3 : decode cX8_shift 3 = .ok (.iload_n 2, 1) := by decide +kernel
theorem dX8_shift_4 : decode cX8_shift 4 = .ok (.if_icmp .ge 48, 3) := by decide +kernel
theorem dX8_shift_7 : decode cX8_shift 7 = .ok (.iload_n 2, 1) := by decide +kernel
theorem dX8_shift_8 : decode cX8_shift 8 = .ok (.iconst 1, 1) := by decide +kernel
theorem dX8_shift_9 : decode cX8_shift 9 = .ok (.isub, 1) := by decide +kernel
theorem dX8_shift_10 : decode cX8_shift 10 = .ok (.istore 4, 2) := by decide +kernel
theorem dX8_shift_12 : decode cX8_shift 12 = .ok (.iload 4, 2) := by decide +kernel
theorem dX8_shift_14 : decode cX8_shift 14 = .ok (.iload_n 3, 1) := by decide +kernel
theorem dX8_shift_15 : decode cX8_shift 15 = .ok (.if_icmp .lt 31, 3) := by decide +kernel
theorem dX8_shift_18 : decode cX8_shift 18 = .ok (.aload_n 0, 1) := by decide +kernel
theorem dX8_shift_19 : decode cX8_shift 19 = .ok (.getfield 9, 3) := by decide +kernel
theorem dX8_shift_22 : decode cX8_shift 22 = .ok (.iload 4, 2) := by decide +kernel
theorem dX8_shift_24 : decode cX8_shift 24 = .ok (.dup2, 1) := by decide +kernel
theorem dX8_shift_25 : decode cX8_shift 25 = .ok (.laload, 1) := by decide +kernel
theorem dX8_shift_26 : decode cX8_shift 26 = .ok (.iload_n 1, 1) := by decide +kernel
theorem dX8_shift_27 : decode cX8_shift 27 = .ok (.i2l, 1) := by decide +kernel
theorem dX8_shift_28 : decode cX8_shift 28 = .ok (.aload_n 0, 1) := by decide +kernel
theorem dX8_shift_29 : decode cX8_shift 29 = .ok (.getfield 9, 3) := by decide +kernel
theorem dX8_shift_32 : decode cX8_shift 32 = .ok (.iload 4, 2) := by decide +kernel
theorem dX8_shift_34 : decode cX8_shift 34 = .ok (.iconst 1, 1) := by decide +kernel
theorem dX8_shift_35 : decode cX8_shift 35 = .ok (.iadd, 1) := by decide +kernel
theorem dX8_shift_36 : decode cX8_shift 36 = .ok (.laload, 1) := by decide +kernel
theorem dX8_shift_37 : decode cX8_shift 37 = .ok (.lmul, 1) := by decide +kernel
theorem dX8_shift_38 : decode cX8_shift 38 = .ok (.ladd, 1) := by decide +kernel
theorem dX8_shift_39 : decode cX8_shift 39 = .ok (.lastore, 1) := by decide +kernel
theorem dX8_shift_40 : decode cX8_shift 40 = .ok (.iinc 4 (-1), 3) := by decide +kernel
theorem dX8_shift_43 : decode cX8_shift 43 = .ok (.goto (-31), 3) := by decide +kernel
theorem dX8_shift_46 : decode cX8_shift 46 = .ok (.iinc 3 1, 3) := by decide +kernel
theorem dX8_shift_49 : decode cX8_shift 49 = .ok (.goto (-47), 3) := by decide +kernel
theorem dX8_shift_52 : decode cX8_shift 52 = .ok (.return_, 1) := by decide +kernel
theorem dX8_build_0 : decode cX8_build 0 = .ok (.aload_n 0, 1) := by decide +kernel
theorem dX8_build_1 : decode cX8_build 1 = .ok (.iconst 0, 1) := by decide +kernel
theorem dX8_build_2 : decode cX8_build 2 = .ok (.putfield 63, 3) := by decide +kernel
theorem dX8_build_5 : decode cX8_build 5 = .ok (.iconst 0, 1) := by decide +kernel
theorem dX8_build_6 : decode cX8_build 6 = .ok (.istore_n 1, 1) := by decide +kernel
theorem dX8_build_7 : decode cX8_build 7 = .ok (.iload_n 1, 1) := by decide +kernel
theorem dX8_build_8 : decode cX8_build 8 = .ok (.aload_n 0, 1) := by decide +kernel
theorem dX8_build_9 : decode cX8_build 9 = .ok (.getfield 27, 3) := by decide +kernel
theorem dX8_build_12 : decode cX8_build 12 = .ok (.if_icmp .gt 82, 3) := by decide +kernel
theorem dX8_build_15 : decode cX8_build 15 = .ok (.aload_n 0, 1) := by decide +kernel
theorem dX8_build_16 : decode cX8_build 16 = .ok (.getfield 63, 3) := by decide +kernel
theorem dX8_build_19 : decode cX8_build 19 = .ok (.ifCond .ne 75, 3) := by decide +kernel
theorem dX8_build_22 : decode cX8_build 22 = .ok (.iload_n 1, 1) := by decide +kernel
theorem dX8_build_23 : decode cX8_build 23 = .ok (.iconst 2, 1) := by decide +kernel
theorem dX8_build_24 : decode cX8_build 24 = .ok (.if_icmp .ge 11, 3) := by decide +kernel
theorem dX8_build_27 : decode cX8_build 27 = .ok (.aload_n 0, 1) := by decide +kernel
theorem dX8_build_28 : decode cX8_build 28 = .ok (.iload_n 1, 1) := by decide +kernel
theorem dX8_build_29 : decode cX8_build 29 = .ok (.invokevirtual 67, 3) := by decide +kernel
theorem dX8_build_32 : decode cX8_build 32 = .ok (.goto 8, 3) := by decide +kernel
theorem dX8_build_35 : decode cX8_build 35 = .ok (.aload_n 0, 1) := by decide +kernel
theorem dX8_build_36 : decode cX8_build 36 = .ok (.iload_n 1, 1) := by decide +kernel
theorem dX8_build_37 : decode cX8_build 37 = .ok (.invokevirtual 71, 3) := by decide +kernel
theorem dX8_build_40 : decode cX8_build 40 = .ok (.aload_n 0, 1) := by decide +kernel
theorem dX8_build_41 : decode cX8_build 41 = .ok (.getfield 23, 3) := by decide +kernel
theorem dX8_build_44 : decode cX8_build 44 = .ok (.iload_n 1, 1) := by decide +kernel
theorem dX8_build_45 : decode cX8_build 45 = .ok (.iload_n 1, 1) := by decide +kernel
theorem dX8_build_46 : decode cX8_build 46 = .ok (.ifCond .ne 7, 3) := by decide +kernel
theorem dX8_build_49 : decode cX8_build 49 = .ok (.iconst 0, 1) := by decide +kernel
theorem dX8_build_50 : decode cX8_build 50 = .ok (.goto 8, 3) := by decide +kernel
theorem dX8_build_53 : decode cX8_build 53 = .ok (.aload_n 0, 1) := by decide +kernel
theorem dX8_build_54 : decode cX8_build 54 = .ok (.iload_n 1, 1) := by decide +kernel
theorem dX8_build_55 : decode cX8_build 55 = .ok (.invokevirtual 74, 3) := by decide +kernel
theorem dX8_build_58 : decode cX8_build 58 = .ok (.iastore, 1) := by decide +kernel
theorem dX8_build_59 : decode cX8_build 59 = .ok (.aload_n 0, 1) := by decide +kernel
theorem dX8_build_60 : decode cX8_build 60 = .ok (.aload_n 0, 1) := by decide +kernel
theorem dX8_build_61 : decode cX8_build 61 = .ok (.getfield 20, 3) := by decide +kernel
theorem dX8_build_64 : decode cX8_build 64 = .ok (.iload_n 1, 1) := by decide +kernel
theorem dX8_build_65 : decode cX8_build 65 = .ok (.aaload, 1) := by decide +kernel
theorem dX8_build_66 : decode cX8_build 66 = .ok (.invokestatic 78, 3) := by decide +kernel
theorem dX8_build_69 : decode cX8_build 69 = .ok (.putfield 63, 3) := by decide +kernel
theorem dX8_build_72 : decode cX8_build 72 = .ok (.aload_n 0, 1) := by decide +kernel
theorem dX8_build_73 : decode cX8_build 73 = .ok (.getfield 63, 3) := by decide +kernel
theorem dX8_build_76 : decode cX8_build 76 = .ok (.ifCond .ne 12, 3) := by decide +kernel
theorem dX8_build_79 : decode cX8_build 79 = .ok (.aload_n 0, 1) := by decide +kernel
theorem dX8_build_80 : decode cX8_build 80 = .ok (.getfield 20, 3) := by decide +kernel
theorem dX8_build_83 : decode cX8_build 83 = .ok (.iload_n 1, 1) := by decide +kernel
theorem dX8_build_84 : decode cX8_build 84 = .ok (.aaload, 1) := by decide +kernel
theorem dX8_build_85 : decode cX8_build 85 = .ok (.invokestatic 82, 3) := by decide +kernel
theorem dX8_build_88 : decode cX8_build 88 = .ok (.iinc 1 1, 3) := by decide +kernel
theorem dX8_build_91 : decode cX8_build 91 = .ok (.goto (-84), 3) := by decide +kernel
theorem dX8_build_94 : decode cX8_build 94 = .ok (.return_, 1) := by decide +kernel
theorem dX8_takeRow_0 : decode cX8_takeRow 0 = .ok (.iconst 0, 1) := by decide +kernel
theorem dX8_takeRow_1 : decode cX8_takeRow 1 = .ok (.istore_n 2, 1) := by decide +kernel
theorem dX8_takeRow_2 : decode cX8_takeRow 2 = .ok (.iload_n 2, 1) := by decide +kernel
theorem dX8_takeRow_3 : decode cX8_takeRow 3 = .ok (.iconst 4, 1) := by decide +kernel
theorem dX8_takeRow_4 : decode cX8_takeRow 4 = .ok (.if_icmp .ge 42, 3) := by decide +kernel
theorem dX8_takeRow_7 : decode cX8_takeRow 7 = .ok (.aload_n 0, 1) := by decide +kernel
theorem dX8_takeRow_8 : decode cX8_takeRow 8 = .ok (.getfield 27, 3) := by decide +kernel
theorem dX8_takeRow_11 : decode cX8_takeRow 11 = .ok (.iload_n 1, 1) := by decide +kernel
theorem dX8_takeRow_12 : decode cX8_takeRow 12 = .ok (.isub, 1) := by decide +kernel
theorem dX8_takeRow_13 : decode cX8_takeRow 13 = .ok (.iconst 2, 1) := by decide +kernel
theorem dX8_takeRow_14 : decode cX8_takeRow 14 = .ok (.iload_n 2, 1) := by decide +kernel
theorem dX8_takeRow_15 : decode cX8_takeRow 15 = .ok (.imul, 1) := by decide +kernel
theorem dX8_takeRow_16 : decode cX8_takeRow 16 = .ok (.isub, 1) := by decide +kernel
theorem dX8_takeRow_17 : decode cX8_takeRow 17 = .ok (.istore_n 3, 1) := by decide +kernel
theorem dX8_takeRow_18 : decode cX8_takeRow 18 = .ok (.aload_n 0, 1) := by decide +kernel
theorem dX8_takeRow_19 : decode cX8_takeRow 19 = .ok (.getfield 20, 3) := by decide +kernel
theorem dX8_takeRow_22 : decode cX8_takeRow 22 = .ok (.iload_n 1, 1) := by decide +kernel
theorem dX8_takeRow_23 : decode cX8_takeRow 23 = .ok (.aaload, 1) := by decide +kernel
theorem dX8_takeRow_24 : decode cX8_takeRow 24 = .ok (.iload_n 2, 1) := by decide +kernel
theorem dX8_takeRow_25 : decode cX8_takeRow 25 = .ok (.iload_n 3, 1) := by decide +kernel
theorem dX8_takeRow_26 : decode cX8_takeRow 26 = .ok (.ifCond .ge 7, 3) := by decide +kernel
theorem dX8_takeRow_29 : decode cX8_takeRow 29 = .ok (.lconst 0, 1) := by decide +kernel
theorem dX8_takeRow_30 : decode cX8_takeRow 30 = .ok (.goto 9, 3) := by decide +kernel
theorem dX8_takeRow_33 : decode cX8_takeRow 33 = .ok (.aload_n 0, 1) := by decide +kernel
theorem dX8_takeRow_34 : decode cX8_takeRow 34 = .ok (.getfield 9, 3) := by decide +kernel
theorem dX8_takeRow_37 : decode cX8_takeRow 37 = .ok (.iload_n 3, 1) := by decide +kernel
theorem dX8_takeRow_38 : decode cX8_takeRow 38 = .ok (.laload, 1) := by decide +kernel
theorem dX8_takeRow_39 : decode cX8_takeRow 39 = .ok (.lastore, 1) := by decide +kernel
theorem dX8_takeRow_40 : decode cX8_takeRow 40 = .ok (.iinc 2 1, 3) := by decide +kernel
theorem dX8_takeRow_43 : decode cX8_takeRow 43 = .ok (.goto (-41), 3) := by decide +kernel
theorem dX8_takeRow_46 : decode cX8_takeRow 46 = .ok (.return_, 1) := by decide +kernel
theorem dX8_crossRow_0 : decode cX8_crossRow 0 = .ok (.aload_n 0, 1) := by decide +kernel
theorem dX8_crossRow_1 : decode cX8_crossRow 1 = .ok (.getfield 20, 3) := by decide +kernel
theorem dX8_crossRow_4 : decode cX8_crossRow 4 = .ok (.iload_n 1, 1) := by decide +kernel
theorem dX8_crossRow_5 : decode cX8_crossRow 5 = .ok (.iconst 2, 1) := by decide +kernel
theorem dX8_crossRow_6 : decode cX8_crossRow 6 = .ok (.isub, 1) := by decide +kernel
theorem dX8_crossRow_7 : decode cX8_crossRow 7 = .ok (.aaload, 1) := by decide +kernel
theorem dX8_crossRow_8 : decode cX8_crossRow 8 = .ok (.astore_n 2, 1) := by decide +kernel
theorem dX8_crossRow_9 : decode cX8_crossRow 9 = .ok (.aload_n 0, 1) := by decide +kernel
theorem dX8_crossRow_10 : decode cX8_crossRow 10 = .ok (.getfield 20, 3) := by decide +kernel
theorem dX8_crossRow_13 : decode cX8_crossRow 13 = .ok (.iload_n 1, 1) := by decide +kernel
theorem dX8_crossRow_14 : decode cX8_crossRow 14 = .ok (.iconst 1, 1) := by decide +kernel
theorem dX8_crossRow_15 : decode cX8_crossRow 15 = .ok (.isub, 1) := by decide +kernel
theorem dX8_crossRow_16 : decode cX8_crossRow 16 = .ok (.aaload, 1) := by decide +kernel
theorem dX8_crossRow_17 : decode cX8_crossRow 17 = .ok (.astore_n 3, 1) := by decide +kernel
theorem dX8_crossRow_18 : decode cX8_crossRow 18 = .ok (.iconst 0, 1) := by decide +kernel
theorem dX8_crossRow_19 : decode cX8_crossRow 19 = .ok (.istore 4, 2) := by decide +kernel
theorem dX8_crossRow_21 : decode cX8_crossRow 21 = .ok (.iload 4, 2) := by decide +kernel
theorem dX8_crossRow_23 : decode cX8_crossRow 23 = .ok (.iconst 4, 1) := by decide +kernel
theorem dX8_crossRow_24 : decode cX8_crossRow 24 = .ok (.if_icmp .ge 76, 3) := by decide +kernel
theorem dX8_crossRow_27 : decode cX8_crossRow 27 = .ok (.lconst 0, 1) := by decide +kernel
theorem dX8_crossRow_28 : decode cX8_crossRow 28 = .ok (.lstore 5, 2) := by decide +kernel
theorem dX8_crossRow_30 : decode cX8_crossRow 30 = .ok (.iload 4, 2) := by decide +kernel
theorem dX8_crossRow_32 : decode cX8_crossRow 32 = .ok (.aload_n 0, 1) := by decide +kernel
theorem dX8_crossRow_33 : decode cX8_crossRow 33 = .ok (.iload_n 1, 1) := by decide +kernel
theorem dX8_crossRow_34 : decode cX8_crossRow 34 = .ok (.invokevirtual 86, 3) := by decide +kernel
theorem dX8_crossRow_37 : decode cX8_crossRow 37 = .ok (.if_icmp .ge 32, 3) := by decide +kernel
theorem dX8_crossRow_40 : decode cX8_crossRow 40 = .ok (.aload_n 3, 1) := by decide +kernel
theorem dX8_crossRow_41 : decode cX8_crossRow 41 = .ok (.iconst 0, 1) := by decide +kernel
theorem dX8_crossRow_42 : decode cX8_crossRow 42 = .ok (.laload, 1) := by decide +kernel
theorem dX8_crossRow_43 : decode cX8_crossRow 43 = .ok (.aload_n 2, 1) := by decide +kernel
theorem dX8_crossRow_44 : decode cX8_crossRow 44 = .ok (.iload 4, 2) := by decide +kernel
theorem dX8_crossRow_46 : decode cX8_crossRow 46 = .ok (.invokestatic 89, 3) := by decide +kernel
theorem dX8_crossRow_49 : decode cX8_crossRow 49 = .ok (.invokestatic 93, 3) := by decide +kernel
theorem dX8_crossRow_52 : decode cX8_crossRow 52 = .ok (.aload_n 2, 1) := by decide +kernel
theorem dX8_crossRow_53 : decode cX8_crossRow 53 = .ok (.iconst 0, 1) := by decide +kernel
theorem dX8_crossRow_54 : decode cX8_crossRow 54 = .ok (.laload, 1) := by decide +kernel
theorem dX8_crossRow_55 : decode cX8_crossRow 55 = .ok (.aload_n 3, 1) := by decide +kernel
theorem dX8_crossRow_56 : decode cX8_crossRow 56 = .ok (.iload 4, 2) := by decide +kernel
theorem dX8_crossRow_58 : decode cX8_crossRow 58 = .ok (.invokestatic 89, 3) := by decide +kernel
theorem dX8_crossRow_61 : decode cX8_crossRow 61 = .ok (.invokestatic 93, 3) := by decide +kernel
theorem dX8_crossRow_64 : decode cX8_crossRow 64 = .ok (.invokestatic 99, 3) := by decide +kernel
theorem dX8_crossRow_67 : decode cX8_crossRow 67 = .ok (.lstore 5, 2) := by decide +kernel
theorem dX8_crossRow_69 : decode cX8_crossRow 69 = .ok (.aload_n 0, 1) := by decide +kernel
theorem dX8_crossRow_70 : decode cX8_crossRow 70 = .ok (.getfield 20, 3) := by decide +kernel
theorem dX8_crossRow_73 : decode cX8_crossRow 73 = .ok (.iload_n 1, 1) := by decide +kernel
theorem dX8_crossRow_74 : decode cX8_crossRow 74 = .ok (.aaload, 1) := by decide +kernel
theorem dX8_crossRow_75 : decode cX8_crossRow 75 = .ok (.iload 4, 2) := by decide +kernel
theorem dX8_crossRow_77 : decode cX8_crossRow 77 = .ok (.aload_n 3, 1) := by decide +kernel
theorem dX8_crossRow_78 : decode cX8_crossRow 78 = .ok (.iconst 0, 1) := by decide +kernel
theorem dX8_crossRow_79 : decode cX8_crossRow 79 = .ok (.laload, 1) := by decide +kernel
theorem dX8_crossRow_80 : decode cX8_crossRow 80 = .ok (.lconst 0, 1) := by decide +kernel
theorem dX8_crossRow_81 : decode cX8_crossRow 81 = .ok (.lcmp, 1) := by decide +kernel
theorem dX8_crossRow_82 : decode cX8_crossRow 82 = .ok (.ifCond .ge 9, 3) := by decide +kernel
theorem dX8_crossRow_85 : decode cX8_crossRow 85 = .ok (.lload 5, 2) := by decide +kernel
theorem dX8_crossRow_87 : decode cX8_crossRow 87 = .ok (.lneg, 1) := by decide +kernel
theorem dX8_crossRow_88 : decode cX8_crossRow 88 = .ok (.goto 5, 3) := by decide +kernel
theorem dX8_crossRow_91 : decode cX8_crossRow 91 = .ok (.lload 5, 2) := by decide +kernel
theorem dX8_crossRow_93 : decode cX8_crossRow 93 = .ok (.lastore, 1) := by decide +kernel
theorem dX8_crossRow_94 : decode cX8_crossRow 94 = .ok (.iinc 4 1, 3) := by decide +kernel
theorem dX8_crossRow_97 : decode cX8_crossRow 97 = .ok (.goto (-76), 3) := by decide +kernel
theorem dX8_crossRow_100 : decode cX8_crossRow 100 = .ok (.return_, 1) := by decide +kernel
theorem dX8_behind_0 : decode cX8_behind 0 = .ok (.iload_n 1, 1) := by decide +kernel
theorem dX8_behind_1 : decode cX8_behind 1 = .ok (.iconst 1, 1) := by decide +kernel
theorem dX8_behind_2 : decode cX8_behind 2 = .ok (.iadd, 1) := by decide +kernel
theorem dX8_behind_3 : decode cX8_behind 3 = .ok (.aload_n 0, 1) := by decide +kernel
theorem dX8_behind_4 : decode cX8_behind 4 = .ok (.arraylength, 1) := by decide +kernel
theorem dX8_behind_5 : decode cX8_behind 5 = .ok (.if_icmp .ge 11, 3) := by decide +kernel
theorem dX8_behind_8 : decode cX8_behind 8 = .ok (.aload_n 0, 1) := by decide +kernel
theorem dX8_behind_9 : decode cX8_behind 9 = .ok (.iload_n 1, 1) := by decide +kernel
theorem dX8_behind_10 : decode cX8_behind 10 = .ok (.iconst 1, 1) := by decide +kernel
theorem dX8_behind_11 : decode cX8_behind 11 = .ok (.iadd, 1) := by decide +kernel
theorem dX8_behind_12 : decode cX8_behind 12 = .ok (.laload, 1) := by decide +kernel
theorem dX8_behind_13 : decode cX8_behind 13 = .ok (.goto 4, 3) := by decide +kernel
theorem dX8_behind_16 : decode cX8_behind 16 = .ok (.lconst 0, 1) := by decide +kernel
theorem dX8_behind_17 : decode cX8_behind 17 = .ok (.lreturn, 1) := by decide +kernel
theorem dX8_mendRow_0 : decode cX8_mendRow 0 = .ok (.iconst 0, 1) := by decide +kernel
theorem dX8_mendRow_1 : decode cX8_mendRow 1 = .ok (.istore_n 2, 1) := by decide +kernel
theorem dX8_mendRow_2 : decode cX8_mendRow 2 = .ok (.iload_n 2, 1) := by decide +kernel
theorem dX8_mendRow_3 : decode cX8_mendRow 3 = .ok (.aload_n 0, 1) := by decide +kernel
theorem dX8_mendRow_4 : decode cX8_mendRow 4 = .ok (.iload_n 1, 1) := by decide +kernel
theorem dX8_mendRow_5 : decode cX8_mendRow 5 = .ok (.invokevirtual 86, 3) := by decide +kernel
theorem dX8_mendRow_8 : decode cX8_mendRow 8 = .ok (.if_icmp .ge 22, 3) := by decide +kernel
theorem dX8_mendRow_11 : decode cX8_mendRow 11 = .ok (.aload_n 0, 1) := by decide +kernel
theorem dX8_mendRow_12 : decode cX8_mendRow 12 = .ok (.getfield 20, 3) := by decide +kernel
theorem dX8_mendRow_15 : decode cX8_mendRow 15 = .ok (.iload_n 1, 1) := by decide +kernel
theorem dX8_mendRow_16 : decode cX8_mendRow 16 = .ok (.aaload, 1) := by decide +kernel
theorem dX8_mendRow_17 : decode cX8_mendRow 17 = .ok (.iload_n 2, 1) := by decide +kernel
theorem dX8_mendRow_18 : decode cX8_mendRow 18 = .ok (.laload, 1) := by decide +kernel
theorem dX8_mendRow_19 : decode cX8_mendRow 19 = .ok (.lconst 0, 1) := by decide +kernel
theorem dX8_mendRow_20 : decode cX8_mendRow 20 = .ok (.lcmp, 1) := by decide +kernel
theorem dX8_mendRow_21 : decode cX8_mendRow 21 = .ok (.ifCond .ne 9, 3) := by decide +kernel
theorem dX8_mendRow_24 : decode cX8_mendRow 24 = .ok (.iinc 2 1, 3) := by decide +kernel
theorem dX8_mendRow_27 : decode cX8_mendRow 27 = .ok (.goto (-25), 3) := by decide +kernel
theorem dX8_mendRow_30 : decode cX8_mendRow 30 = .ok (.iload_n 2, 1) := by decide +kernel
theorem dX8_mendRow_31 : decode cX8_mendRow 31 = .ok (.ifCond .ne 5, 3) := by decide +kernel
theorem dX8_mendRow_34 : decode cX8_mendRow 34 = .ok (.iconst 0, 1) := by decide +kernel
theorem dX8_mendRow_35 : decode cX8_mendRow 35 = .ok (.ireturn, 1) := by decide +kernel
theorem dX8_mendRow_36 : decode cX8_mendRow 36 = .ok (.iload_n 2, 1) := by decide +kernel
theorem dX8_mendRow_37 : decode cX8_mendRow 37 = .ok (.aload_n 0, 1) := by decide +kernel
theorem dX8_mendRow_38 : decode cX8_mendRow 38 = .ok (.iload_n 1, 1) := by decide +kernel
theorem dX8_mendRow_39 : decode cX8_mendRow 39 = .ok (.invokevirtual 86, 3) := by decide +kernel
theorem dX8_mendRow_42 : decode cX8_mendRow 42 = .ok (.if_icmp .ne 56, 3) := by decide +kernel
theorem dX8_mendRow_45 : decode cX8_mendRow 45 = .ok (.iconst 0, 1) := by decide +kernel
theorem dX8_mendRow_46 : decode cX8_mendRow 46 = .ok (.istore_n 3, 1) := by decide +kernel
theorem dX8_mendRow_47 : decode cX8_mendRow 47 = .ok (.iload_n 3, 1) := by decide +kernel
theorem dX8_mendRow_48 : decode cX8_mendRow 48 = .ok (.aload_n 0, 1) := by decide +kernel
theorem dX8_mendRow_49 : decode cX8_mendRow 49 = .ok (.iload_n 1, 1) := by decide +kernel
theorem dX8_mendRow_50 : decode cX8_mendRow 50 = .ok (.invokevirtual 86, 3) := by decide +kernel
theorem dX8_mendRow_53 : decode cX8_mendRow 53 = .ok (.if_icmp .ge 43, 3) := by decide +kernel
theorem dX8_mendRow_56 : decode cX8_mendRow 56 = .ok (.aload_n 0, 1) := by decide +kernel
theorem dX8_mendRow_57 : decode cX8_mendRow 57 = .ok (.getfield 20, 3) := by decide +kernel
theorem dX8_mendRow_60 : decode cX8_mendRow 60 = .ok (.iload_n 1, 1) := by decide +kernel
theorem dX8_mendRow_61 : decode cX8_mendRow 61 = .ok (.aaload, 1) := by decide +kernel
theorem dX8_mendRow_62 : decode cX8_mendRow 62 = .ok (.iload_n 3, 1) := by decide +kernel
theorem dX8_mendRow_63 : decode cX8_mendRow 63 = .ok (.aload_n 0, 1) := by decide +kernel
theorem dX8_mendRow_64 : decode cX8_mendRow 64 = .ok (.getfield 20, 3) := by decide +kernel
theorem dX8_mendRow_67 : decode cX8_mendRow 67 = .ok (.iload_n 1, 1) := by decide +kernel
theorem dX8_mendRow_68 : decode cX8_mendRow 68 = .ok (.iconst 1, 1) := by decide +kernel
theorem dX8_mendRow_69 : decode cX8_mendRow 69 = .ok (.isub, 1) := by decide +kernel
theorem dX8_mendRow_70 : decode cX8_mendRow 70 = .ok (.aaload, 1) := by decide +kernel
theorem dX8_mendRow_71 : decode cX8_mendRow 71 = .ok (.iload_n 3, 1) := by decide +kernel
theorem dX8_mendRow_72 : decode cX8_mendRow 72 = .ok (.laload, 1) := by decide +kernel
theorem dX8_mendRow_73 : decode cX8_mendRow 73 = .ok (.aload_n 0, 1) := by decide +kernel
theorem dX8_mendRow_74 : decode cX8_mendRow 74 = .ok (.getfield 27, 3) := by decide +kernel
theorem dX8_mendRow_77 : decode cX8_mendRow 77 = .ok (.iload_n 1, 1) := by decide +kernel
theorem dX8_mendRow_78 : decode cX8_mendRow 78 = .ok (.isub, 1) := by decide +kernel
theorem dX8_mendRow_79 : decode cX8_mendRow 79 = .ok (.iconst 1, 1) := by decide +kernel
theorem dX8_mendRow_80 : decode cX8_mendRow 80 = .ok (.iadd, 1) := by decide +kernel
theorem dX8_mendRow_81 : decode cX8_mendRow 81 = .ok (.iconst 2, 1) := by decide +kernel
theorem dX8_mendRow_82 : decode cX8_mendRow 82 = .ok (.iload_n 3, 1) := by decide +kernel
theorem dX8_mendRow_83 : decode cX8_mendRow 83 = .ok (.imul, 1) := by decide +kernel
theorem dX8_mendRow_84 : decode cX8_mendRow 84 = .ok (.isub, 1) := by decide +kernel
theorem dX8_mendRow_85 : decode cX8_mendRow 85 = .ok (.i2l, 1) := by decide +kernel
theorem dX8_mendRow_86 : decode cX8_mendRow 86 = .ok (.invokestatic 93, 3) := by decide +kernel
theorem dX8_mendRow_89 : decode cX8_mendRow 89 = .ok (.lastore, 1) := by decide +kernel
theorem dX8_mendRow_90 : decode cX8_mendRow 90 = .ok (.iinc 3 1, 3) := by decide +kernel
theorem dX8_mendRow_93 : decode cX8_mendRow 93 = .ok (.goto (-46), 3) := by decide +kernel
theorem dX8_mendRow_96 : decode cX8_mendRow 96 = .ok (.iconst 2, 1) := by decide +kernel
theorem dX8_mendRow_97 : decode cX8_mendRow 97 = .ok (.ireturn, 1) := by decide +kernel
theorem dX8_mendRow_98 : decode cX8_mendRow 98 = .ok (.iconst 0, 1) := by decide +kernel
theorem dX8_mendRow_99 : decode cX8_mendRow 99 = .ok (.istore_n 3, 1) := by decide +kernel
theorem dX8_mendRow_100 : decode cX8_mendRow 100 = .ok (.iload_n 3, 1) := by decide +kernel
theorem dX8_mendRow_101 : decode cX8_mendRow 101 = .ok (.iload_n 2, 1) := by decide +kernel
theorem dX8_mendRow_102 : decode cX8_mendRow 102 = .ok (.iadd, 1) := by decide +kernel
theorem dX8_mendRow_103 : decode cX8_mendRow 103 = .ok (.aload_n 0, 1) := by decide +kernel
theorem dX8_mendRow_104 : decode cX8_mendRow 104 = .ok (.iload_n 1, 1) := by decide +kernel
theorem dX8_mendRow_105 : decode cX8_mendRow 105 = .ok (.invokevirtual 86, 3) := by decide +kernel
theorem dX8_mendRow_108 : decode cX8_mendRow 108 = .ok (.if_icmp .ge 55, 3) := by decide +kernel
theorem dX8_mendRow_111 : decode cX8_mendRow 111 = .ok (.aload_n 0, 1) := by decide +kernel
theorem dX8_mendRow_112 : decode cX8_mendRow 112 = .ok (.getfield 20, 3) := by decide +kernel
theorem dX8_mendRow_115 : decode cX8_mendRow 115 = .ok (.iload_n 1, 1) := by decide +kernel
theorem dX8_mendRow_116 : decode cX8_mendRow 116 = .ok (.aaload, 1) := by decide +kernel
theorem dX8_mendRow_117 : decode cX8_mendRow 117 = .ok (.iload_n 3, 1) := by decide +kernel
theorem dX8_mendRow_118 : decode cX8_mendRow 118 = .ok (.iload_n 2, 1) := by decide +kernel
theorem dX8_mendRow_119 : decode cX8_mendRow 119 = .ok (.iadd, 1) := by decide +kernel
theorem dX8_mendRow_120 : decode cX8_mendRow 120 = .ok (.laload, 1) := by decide +kernel
theorem dX8_mendRow_121 : decode cX8_mendRow 121 = .ok (.lstore 4, 2) := by decide +kernel
theorem dX8_mendRow_123 : decode cX8_mendRow 123 = .ok (.aload_n 0, 1) := by decide +kernel
theorem dX8_mendRow_124 : decode cX8_mendRow 124 = .ok (.getfield 20, 3) := by decide +kernel
theorem dX8_mendRow_127 : decode cX8_mendRow 127 = .ok (.iload_n 1, 1) := by decide +kernel
theorem dX8_mendRow_128 : decode cX8_mendRow 128 = .ok (.aaload, 1) := by decide +kernel
theorem dX8_mendRow_129 : decode cX8_mendRow 129 = .ok (.iload_n 3, 1) := by decide +kernel
theorem dX8_mendRow_130 : decode cX8_mendRow 130 = .ok (.aload_n 0, 1) := by decide +kernel
theorem dX8_mendRow_131 : decode cX8_mendRow 131 = .ok (.getfield 20, 3) := by decide +kernel
theorem dX8_mendRow_134 : decode cX8_mendRow 134 = .ok (.iload_n 1, 1) := by decide +kernel
theorem dX8_mendRow_135 : decode cX8_mendRow 135 = .ok (.aaload, 1) := by decide +kernel
theorem dX8_mendRow_136 : decode cX8_mendRow 136 = .ok (.iload_n 3, 1) := by decide +kernel
theorem dX8_mendRow_137 : decode cX8_mendRow 137 = .ok (.laload, 1) := by decide +kernel
theorem dX8_mendRow_138 : decode cX8_mendRow 138 = .ok (.iload_n 2, 1) := by decide +kernel
theorem dX8_mendRow_139 : decode cX8_mendRow 139 = .ok (.iconst 2, 1) := by decide +kernel
theorem dX8_mendRow_140 : decode cX8_mendRow 140 = .ok (.irem, 1) := by decide +kernel
theorem dX8_mendRow_141 : decode cX8_mendRow 141 = .ok (.iconst 1, 1) := by decide +kernel
theorem dX8_mendRow_142 : decode cX8_mendRow 142 = .ok (.if_icmp .ne 9, 3) := by decide +kernel
theorem dX8_mendRow_145 : decode cX8_mendRow 145 = .ok (.lload 4, 2) := by decide +kernel
theorem dX8_mendRow_147 : decode cX8_mendRow 147 = .ok (.lneg, 1) := by decide +kernel
theorem dX8_mendRow_148 : decode cX8_mendRow 148 = .ok (.goto 5, 3) := by decide +kernel
theorem dX8_mendRow_151 : decode cX8_mendRow 151 = .ok (.lload 4, 2) := by decide +kernel
theorem dX8_mendRow_153 : decode cX8_mendRow 153 = .ok (.invokestatic 102, 3) := by decide +kernel
theorem dX8_mendRow_156 : decode cX8_mendRow 156 = .ok (.lastore, 1) := by decide +kernel
theorem dX8_mendRow_157 : decode cX8_mendRow 157 = .ok (.iinc 3 1, 3) := by decide +kernel
theorem dX8_mendRow_160 : decode cX8_mendRow 160 = .ok (.goto (-60), 3) := by decide +kernel
theorem dX8_mendRow_163 : decode cX8_mendRow 163 = .ok (.iconst 1, 1) := by decide +kernel
theorem dX8_mendRow_164 : decode cX8_mendRow 164 = .ok (.ireturn, 1) := by decide +kernel
theorem dX8_hasRow_0 : decode cX8_hasRow 0 = .ok (.iload_n 1, 1) := by decide +kernel
theorem dX8_hasRow_1 : decode cX8_hasRow 1 = .ok (.ifCond .lt 15, 3) := by decide +kernel
theorem dX8_hasRow_4 : decode cX8_hasRow 4 = .ok (.iload_n 1, 1) := by decide +kernel
theorem dX8_hasRow_5 : decode cX8_hasRow 5 = .ok (.aload_n 0, 1) := by decide +kernel
theorem dX8_hasRow_6 : decode cX8_hasRow 6 = .ok (.getfield 27, 3) := by decide +kernel
theorem dX8_hasRow_9 : decode cX8_hasRow 9 = .ok (.if_icmp .gt 7, 3) := by decide +kernel
theorem dX8_hasRow_12 : decode cX8_hasRow 12 = .ok (.iconst 1, 1) := by decide +kernel
theorem dX8_hasRow_13 : decode cX8_hasRow 13 = .ok (.goto 4, 3) := by decide +kernel
theorem dX8_hasRow_16 : decode cX8_hasRow 16 = .ok (.iconst 0, 1) := by decide +kernel
theorem dX8_hasRow_17 : decode cX8_hasRow 17 = .ok (.ireturn, 1) := by decide +kernel
theorem dX8_width_0 : decode cX8_width 0 = .ok (.aload_n 0, 1) := by decide +kernel
theorem dX8_width_1 : decode cX8_width 1 = .ok (.getfield 27, 3) := by decide +kernel
theorem dX8_width_4 : decode cX8_width 4 = .ok (.iload_n 1, 1) := by decide +kernel
theorem dX8_width_5 : decode cX8_width 5 = .ok (.isub, 1) := by decide +kernel
theorem dX8_width_6 : decode cX8_width 6 = .ok (.iconst 2, 1) := by decide +kernel
theorem dX8_width_7 : decode cX8_width 7 = .ok (.idiv, 1) := by decide +kernel
theorem dX8_width_8 : decode cX8_width 8 = .ok (.iconst 1, 1) := by decide +kernel
theorem dX8_width_9 : decode cX8_width 9 = .ok (.iadd, 1) := by decide +kernel
theorem dX8_width_10 : decode cX8_width 10 = .ok (.ireturn, 1) := by decide +kernel
theorem dX8_item_0 : decode cX8_item 0 = .ok (.aload_n 0, 1) := by decide +kernel
theorem dX8_item_1 : decode cX8_item 1 = .ok (.getfield 20, 3) := by decide +kernel
theorem dX8_item_4 : decode cX8_item 4 = .ok (.iload_n 1, 1) := by decide +kernel
theorem dX8_item_5 : decode cX8_item 5 = .ok (.aaload, 1) := by decide +kernel
theorem dX8_item_6 : decode cX8_item 6 = .ok (.iload_n 2, 1) := by decide +kernel
theorem dX8_item_7 : decode cX8_item 7 = .ok (.laload, 1) := by decide +kernel
theorem dX8_item_8 : decode cX8_item 8 = .ok (.lreturn, 1) := by decide +kernel
theorem dX8_mending_0 : decode cX8_mending 0 = .ok (.aload_n 0, 1) := by decide +kernel
theorem dX8_mending_1 : decode cX8_mending 1 = .ok (.getfield 23, 3) := by decide +kernel
theorem dX8_mending_4 : decode cX8_mending 4 = .ok (.iload_n 1, 1) := by decide +kernel
theorem dX8_mending_5 : decode cX8_mending 5 = .ok (.iaload, 1) := by decide +kernel
theorem dX8_mending_6 : decode cX8_mending 6 = .ok (.ireturn, 1) := by decide +kernel
theorem dX8_signChanges_0 : decode cX8_signChanges 0 = .ok (.iconst 0, 1) := by decide +kernel
theorem dX8_signChanges_1 : decode cX8_signChanges 1 = .ok (.istore_n 3, 1) := by decide +kernel
theorem dX8_signChanges_2 : decode cX8_signChanges 2 = .ok (.iload_n 1, 1) := by decide +kernel
theorem dX8_signChanges_3 : decode cX8_signChanges 3 = .ok (.iconst 1, 1) := by decide +kernel
theorem dX8_signChanges_4 : decode cX8_signChanges 4 = .ok (.iadd, 1) := by decide +kernel
theorem dX8_signChanges_5 : decode cX8_signChanges 5 = .ok (.istore 4, 2) := by decide +kernel
theorem dX8_signChanges_7 : decode cX8_signChanges 7 = .ok (.iload 4, 2) := by decide +kernel
theorem dX8_signChanges_9 : decode cX8_signChanges 9 = .ok (.iload_n 2, 1) := by decide +kernel
theorem dX8_signChanges_10 : decode cX8_signChanges 10 = .ok (.if_icmp .gt 55, 3) := by decide +kernel
theorem dX8_signChanges_13 : decode cX8_signChanges 13 = .ok (.aload_n 0, 1) := by decide +kernel
theorem dX8_signChanges_14 : decode cX8_signChanges 14 = .ok (.getfield 20, 3) := by decide +kernel
theorem dX8_signChanges_17 : decode cX8_signChanges 17 = .ok (.iload 4, 2) := by decide +kernel
theorem dX8_signChanges_19 : decode cX8_signChanges 19 = .ok (.aaload, 1) := by decide +kernel
theorem dX8_signChanges_20 : decode cX8_signChanges 20 = .ok (.iconst 0, 1) := by decide +kernel
theorem dX8_signChanges_21 : decode cX8_signChanges 21 = .ok (.laload, 1) := by decide +kernel
theorem dX8_signChanges_22 : decode cX8_signChanges 22 = .ok (.lconst 0, 1) := by decide +kernel
theorem dX8_signChanges_23 : decode cX8_signChanges 23 = .ok (.lcmp, 1) := by decide +kernel
theorem dX8_signChanges_24 : decode cX8_signChanges 24 = .ok (.ifCond .ge 7, 3) := by decide +kernel
theorem dX8_signChanges_27 : decode cX8_signChanges 27 = .ok (.iconst 1, 1) := by decide +kernel
theorem dX8_signChanges_28 : decode cX8_signChanges 28 = .ok (.goto 4, 3) := by decide +kernel
theorem dX8_signChanges_31 : decode cX8_signChanges 31 = .ok (.iconst 0, 1) := by decide +kernel
theorem dX8_signChanges_32 : decode cX8_signChanges 32 = .ok (.aload_n 0, 1) := by decide +kernel
theorem dX8_signChanges_33 : decode cX8_signChanges 33 = .ok (.getfield 20, 3) := by decide +kernel
theorem dX8_signChanges_36 : decode cX8_signChanges 36 = .ok (.iload 4, 2) := by decide +kernel
theorem dX8_signChanges_38 : decode cX8_signChanges 38 = .ok (.iconst 1, 1) := by decide +kernel
theorem dX8_signChanges_39 : decode cX8_signChanges 39 = .ok (.isub, 1) := by decide +kernel
theorem dX8_signChanges_40 : decode cX8_signChanges 40 = .ok (.aaload, 1) := by decide +kernel
theorem dX8_signChanges_41 : decode cX8_signChanges 41 = .ok (.iconst 0, 1) := by decide +kernel
theorem dX8_signChanges_42 : decode cX8_signChanges 42 = .ok (.laload, 1) := by decide +kernel
theorem dX8_signChanges_43 : decode cX8_signChanges 43 = .ok (.lconst 0, 1) := by decide +kernel
theorem dX8_signChanges_44 : decode cX8_signChanges 44 = .ok (.lcmp, 1) := by decide +kernel
theorem dX8_signChanges_45 : decode cX8_signChanges 45 = .ok (.ifCond .ge 7, 3) := by decide +kernel
theorem dX8_signChanges_48 : decode cX8_signChanges 48 = .ok (.iconst 1, 1) := by decide +kernel
theorem dX8_signChanges_49 : decode cX8_signChanges 49 = .ok (.goto 4, 3) := by decide +kernel
theorem dX8_signChanges_52 : decode cX8_signChanges 52 = .ok (.iconst 0, 1) := by decide +kernel
theorem dX8_signChanges_53 : decode cX8_signChanges 53 = .ok (.if_icmp .eq 6, 3) := by decide +kernel
theorem dX8_signChanges_56 : decode cX8_signChanges 56 = .ok (.iinc 3 1, 3) := by decide +kernel
theorem dX8_signChanges_59 : decode cX8_signChanges 59 = .ok (.iinc 4 1, 3) := by decide +kernel
theorem dX8_signChanges_62 : decode cX8_signChanges 62 = .ok (.goto (-55), 3) := by decide +kernel
theorem dX8_signChanges_65 : decode cX8_signChanges 65 = .ok (.iload_n 3, 1) := by decide +kernel
theorem dX8_signChanges_66 : decode cX8_signChanges 66 = .ok (.ireturn, 1) := by decide +kernel
theorem dX8_firstNothing_0 : decode cX8_firstNothing 0 = .ok (.iconst 0, 1) := by decide +kernel
theorem dX8_firstNothing_1 : decode cX8_firstNothing 1 = .ok (.istore_n 1, 1) := by decide +kernel
theorem dX8_firstNothing_2 : decode cX8_firstNothing 2 = .ok (.iload_n 1, 1) := by decide +kernel
theorem dX8_firstNothing_3 : decode cX8_firstNothing 3 = .ok (.aload_n 0, 1) := by decide +kernel
theorem dX8_firstNothing_4 : decode cX8_firstNothing 4 = .ok (.getfield 27, 3) := by decide +kernel
theorem dX8_firstNothing_7 : decode cX8_firstNothing 7 = .ok (.if_icmp .gt 21, 3) := by decide +kernel
theorem dX8_firstNothing_10 : decode cX8_firstNothing 10 = .ok (.aload_n 0, 1) := by decide +kernel
theorem dX8_firstNothing_11 : decode cX8_firstNothing 11 = .ok (.getfield 23, 3) := by decide +kernel
theorem dX8_firstNothing_14 : decode cX8_firstNothing 14 = .ok (.iload_n 1, 1) := by decide +kernel
theorem dX8_firstNothing_15 : decode cX8_firstNothing 15 = .ok (.iaload, 1) := by decide +kernel
theorem dX8_firstNothing_16 : decode cX8_firstNothing 16 = .ok (.iconst 2, 1) := by decide +kernel
theorem dX8_firstNothing_17 : decode cX8_firstNothing 17 = .ok (.if_icmp .ne 5, 3) := by decide +kernel
theorem dX8_firstNothing_20 : decode cX8_firstNothing 20 = .ok (.iload_n 1, 1) := by decide +kernel
theorem dX8_firstNothing_21 : decode cX8_firstNothing 21 = .ok (.ireturn, 1) := by decide +kernel
theorem dX8_firstNothing_22 : decode cX8_firstNothing 22 = .ok (.iinc 1 1, 3) := by decide +kernel
theorem dX8_firstNothing_25 : decode cX8_firstNothing 25 = .ok (.goto (-23), 3) := by decide +kernel
theorem dX8_firstNothing_28 : decode cX8_firstNothing 28 = .ok (.iconst (-1), 1) := by decide +kernel
theorem dX8_firstNothing_29 : decode cX8_firstNothing 29 = .ok (.ireturn, 1) := by decide +kernel
theorem dX8_rightCount_0 : decode cX8_rightCount 0 = .ok (.aload_n 0, 1) := by decide +kernel
theorem dX8_rightCount_1 : decode cX8_rightCount 1 = .ok (.iconst 0, 1) := by decide +kernel
theorem dX8_rightCount_2 : decode cX8_rightCount 2 = .ok (.aload_n 0, 1) := by decide +kernel
theorem dX8_rightCount_3 : decode cX8_rightCount 3 = .ok (.getfield 27, 3) := by decide +kernel
theorem dX8_rightCount_6 : decode cX8_rightCount 6 = .ok (.invokevirtual 105, 3) := by decide +kernel
theorem dX8_rightCount_9 : decode cX8_rightCount 9 = .ok (.ireturn, 1) := by decide +kernel
theorem dX8_axisCount_0 : decode cX8_axisCount 0 = .ok (.aload_n 0, 1) := by decide +kernel
theorem dX8_axisCount_1 : decode cX8_axisCount 1 = .ok (.invokevirtual 109, 3) := by decide +kernel
theorem dX8_axisCount_4 : decode cX8_axisCount 4 = .ok (.istore_n 1, 1) := by decide +kernel
theorem dX8_axisCount_5 : decode cX8_axisCount 5 = .ok (.iload_n 1, 1) := by decide +kernel
theorem dX8_axisCount_6 : decode cX8_axisCount 6 = .ok (.iconst 1, 1) := by decide +kernel
theorem dX8_axisCount_7 : decode cX8_axisCount 7 = .ok (.if_icmp .ge 7, 3) := by decide +kernel
theorem dX8_axisCount_10 : decode cX8_axisCount 10 = .ok (.iconst 0, 1) := by decide +kernel
theorem dX8_axisCount_11 : decode cX8_axisCount 11 = .ok (.goto 25, 3) := by decide +kernel
theorem dX8_axisCount_14 : decode cX8_axisCount 14 = .ok (.aload_n 0, 1) := by decide +kernel
theorem dX8_axisCount_15 : decode cX8_axisCount 15 = .ok (.getfield 27, 3) := by decide +kernel
theorem dX8_axisCount_18 : decode cX8_axisCount 18 = .ok (.iload_n 1, 1) := by decide +kernel
theorem dX8_axisCount_19 : decode cX8_axisCount 19 = .ok (.isub, 1) := by decide +kernel
theorem dX8_axisCount_20 : decode cX8_axisCount 20 = .ok (.iconst 1, 1) := by decide +kernel
theorem dX8_axisCount_21 : decode cX8_axisCount 21 = .ok (.iadd, 1) := by decide +kernel
theorem dX8_axisCount_22 : decode cX8_axisCount 22 = .ok (.iconst 2, 1) := by decide +kernel
theorem dX8_axisCount_23 : decode cX8_axisCount 23 = .ok (.aload_n 0, 1) := by decide +kernel
theorem dX8_axisCount_24 : decode cX8_axisCount 24 = .ok (.iload_n 1, 1) := by decide +kernel
theorem dX8_axisCount_25 : decode cX8_axisCount 25 = .ok (.iconst 1, 1) := by decide +kernel
theorem dX8_axisCount_26 : decode cX8_axisCount 26 = .ok (.isub, 1) := by decide +kernel
theorem dX8_axisCount_27 : decode cX8_axisCount 27 = .ok (.aload_n 0, 1) := by decide +kernel
theorem dX8_axisCount_28 : decode cX8_axisCount 28 = .ok (.getfield 27, 3) := by decide +kernel
theorem dX8_axisCount_31 : decode cX8_axisCount 31 = .ok (.invokevirtual 105, 3) := by decide +kernel
theorem dX8_axisCount_34 : decode cX8_axisCount 34 = .ok (.imul, 1) := by decide +kernel
theorem dX8_axisCount_35 : decode cX8_axisCount 35 = .ok (.isub, 1) := by decide +kernel
theorem dX8_axisCount_36 : decode cX8_axisCount 36 = .ok (.ireturn, 1) := by decide +kernel
theorem dX8_leftCount_0 : decode cX8_leftCount 0 = .ok (.aload_n 0, 1) := by decide +kernel
theorem dX8_leftCount_1 : decode cX8_leftCount 1 = .ok (.getfield 27, 3) := by decide +kernel
theorem dX8_leftCount_4 : decode cX8_leftCount 4 = .ok (.iconst 1, 1) := by decide +kernel
theorem dX8_leftCount_5 : decode cX8_leftCount 5 = .ok (.if_icmp .ge 7, 3) := by decide +kernel
theorem dX8_leftCount_8 : decode cX8_leftCount 8 = .ok (.iconst 0, 1) := by decide +kernel
theorem dX8_leftCount_9 : decode cX8_leftCount 9 = .ok (.goto 17, 3) := by decide +kernel
theorem dX8_leftCount_12 : decode cX8_leftCount 12 = .ok (.aload_n 0, 1) := by decide +kernel
theorem dX8_leftCount_13 : decode cX8_leftCount 13 = .ok (.getfield 27, 3) := by decide +kernel
theorem dX8_leftCount_16 : decode cX8_leftCount 16 = .ok (.aload_n 0, 1) := by decide +kernel
theorem dX8_leftCount_17 : decode cX8_leftCount 17 = .ok (.invokevirtual 113, 3) := by decide +kernel
theorem dX8_leftCount_20 : decode cX8_leftCount 20 = .ok (.isub, 1) := by decide +kernel
theorem dX8_leftCount_21 : decode cX8_leftCount 21 = .ok (.aload_n 0, 1) := by decide +kernel
theorem dX8_leftCount_22 : decode cX8_leftCount 22 = .ok (.invokevirtual 116, 3) := by decide +kernel
theorem dX8_leftCount_25 : decode cX8_leftCount 25 = .ok (.isub, 1) := by decide +kernel
theorem dX8_leftCount_26 : decode cX8_leftCount 26 = .ok (.ireturn, 1) := by decide +kernel
theorem dX9_init_0 : decode cX9_init 0 = .ok (.aload_n 0, 1) := by decide +kernel
theorem dX9_init_1 : decode cX9_init 1 = .ok (.invokespecial 3, 3) := by decide +kernel
theorem dX9_init_4 : decode cX9_init 4 = .ok (.aload_n 0, 1) := by decide +kernel
theorem dX9_init_5 : decode cX9_init 5 = .ok (.bipush 60, 2) := by decide +kernel
theorem dX9_init_7 : decode cX9_init 7 = .ok (.newarray .int, 2) := by decide +kernel
theorem dX9_init_9 : decode cX9_init 9 = .ok (.putfield 9, 3) := by decide +kernel
theorem dX9_init_12 : decode cX9_init 12 = .ok (.aload_n 0, 1) := by decide +kernel
theorem dX9_init_13 : decode cX9_init 13 = .ok (.bipush 7, 2) := by decide +kernel
theorem dX9_init_15 : decode cX9_init 15 = .ok (.newarray .long, 2) := by decide +kernel
theorem dX9_init_17 : decode cX9_init 17 = .ok (.putfield 15, 3) := by decide +kernel
theorem dX9_init_20 : decode cX9_init 20 = .ok (.aload_n 0, 1) := by decide +kernel
theorem dX9_init_21 : decode cX9_init 21 = .ok (.bipush 7, 2) := by decide +kernel
theorem dX9_init_23 : decode cX9_init 23 = .ok (.newarray .long, 2) := by decide +kernel
theorem dX9_init_25 : decode cX9_init 25 = .ok (.putfield 19, 3) := by decide +kernel
theorem dX9_init_28 : decode cX9_init 28 = .ok (.return_, 1) := by decide +kernel
theorem dX9_append_0 : decode cX9_append 0 = .ok (.aload_n 0, 1) := by decide +kernel
theorem dX9_append_1 : decode cX9_append 1 = .ok (.getfield 22, 3) := by decide +kernel
theorem dX9_append_4 : decode cX9_append 4 = .ok (.bipush 60, 2) := by decide +kernel
theorem dX9_append_6 : decode cX9_append 6 = .ok (.if_icmp .ge 23, 3) := by decide +kernel
theorem dX9_append_9 : decode cX9_append 9 = .ok (.aload_n 0, 1) := by decide +kernel
theorem dX9_append_10 : decode cX9_append 10 = .ok (.getfield 9, 3) := by decide +kernel
theorem dX9_append_13 : decode cX9_append 13 = .ok (.aload_n 0, 1) := by decide +kernel
theorem dX9_append_14 : decode cX9_append 14 = .ok (.getfield 22, 3) := by decide +kernel
theorem dX9_append_17 : decode cX9_append 17 = .ok (.iload_n 1, 1) := by decide +kernel
theorem dX9_append_18 : decode cX9_append 18 = .ok (.iastore, 1) := by decide +kernel
theorem dX9_append_19 : decode cX9_append 19 = .ok (.aload_n 0, 1) := by decide +kernel
theorem dX9_append_20 : decode cX9_append 20 = .ok (.dup, 1) := by decide +kernel
theorem dX9_append_21 : decode cX9_append 21 = .ok (.getfield 22, 3) := by decide +kernel
theorem dX9_append_24 : decode cX9_append 24 = .ok (.iconst 1, 1) := by decide +kernel
theorem dX9_append_25 : decode cX9_append 25 = .ok (.iadd, 1) := by decide +kernel
theorem dX9_append_26 : decode cX9_append 26 = .ok (.putfield 22, 3) := by decide +kernel
theorem dX9_append_29 : decode cX9_append 29 = .ok (.return_, 1) := by decide +kernel
theorem dX9_parse_0 : decode cX9_parse 0 = .ok (.iconst 0, 1) := by decide +kernel
theorem dX9_parse_1 : decode cX9_parse 1 = .ok (.istore_n 1, 1) := by decide +kernel
theorem dX9_parse_2 : decode cX9_parse 2 = .ok (.iload_n 1, 1) := by decide +kernel
theorem dX9_parse_3 : decode cX9_parse 3 = .ok (.bipush 7, 2) := by decide +kernel
theorem dX9_parse_5 : decode cX9_parse 5 = .ok (.if_icmp .ge 23, 3) := by decide +kernel
theorem dX9_parse_8 : decode cX9_parse 8 = .ok (.aload_n 0, 1) := by decide +kernel
theorem dX9_parse_9 : decode cX9_parse 9 = .ok (.getfield 15, 3) := by decide +kernel
theorem dX9_parse_12 : decode cX9_parse 12 = .ok (.iload_n 1, 1) := by decide +kernel
theorem dX9_parse_13 : decode cX9_parse 13 = .ok (.lconst 0, 1) := by decide +kernel
theorem dX9_parse_14 : decode cX9_parse 14 = .ok (.lastore, 1) := by decide +kernel
theorem dX9_parse_15 : decode cX9_parse 15 = .ok (.aload_n 0, 1) := by decide +kernel
theorem dX9_parse_16 : decode cX9_parse 16 = .ok (.getfield 19, 3) := by decide +kernel
theorem dX9_parse_19 : decode cX9_parse 19 = .ok (.iload_n 1, 1) := by decide +kernel
theorem dX9_parse_20 : decode cX9_parse 20 = .ok (.lconst 0, 1) := by decide +kernel
theorem dX9_parse_21 : decode cX9_parse 21 = .ok (.lastore, 1) := by decide +kernel
theorem dX9_parse_22 : decode cX9_parse 22 = .ok (.iinc 1 1, 3) := by decide +kernel
theorem dX9_parse_25 : decode cX9_parse 25 = .ok (.goto (-23), 3) := by decide +kernel
theorem dX9_parse_28 : decode cX9_parse 28 = .ok (.aload_n 0, 1) := by decide +kernel
theorem dX9_parse_29 : decode cX9_parse 29 = .ok (.iconst 0, 1) := by decide +kernel
theorem dX9_parse_30 : decode cX9_parse 30 = .ok (.putfield 26, 3) := by decide +kernel
theorem dX9_parse_33 : decode cX9_parse 33 = .ok (.aload_n 0, 1) := by decide +kernel
theorem dX9_parse_34 : decode cX9_parse 34 = .ok (.iconst (-1), 1) := by decide +kernel
theorem dX9_parse_35 : decode cX9_parse 35 = .ok (.putfield 29, 3) := by decide +kernel
theorem dX9_parse_38 : decode cX9_parse 38 = .ok (.aload_n 0, 1) := by decide +kernel
theorem dX9_parse_39 : decode cX9_parse 39 = .ok (.iconst 0, 1) := by decide +kernel
theorem dX9_parse_40 : decode cX9_parse 40 = .ok (.putfield 32, 3) := by decide +kernel
theorem dX9_parse_43 : decode cX9_parse 43 = .ok (.aload_n 0, 1) := by decide +kernel
theorem dX9_parse_44 : decode cX9_parse 44 = .ok (.aload_n 0, 1) := by decide +kernel
theorem dX9_parse_45 : decode cX9_parse 45 = .ok (.getfield 15, 3) := by decide +kernel
theorem dX9_parse_48 : decode cX9_parse 48 = .ok (.iconst 1, 1) := by decide +kernel
theorem dX9_parse_49 : decode cX9_parse 49 = .ok (.invokevirtual 35, 3) := by decide +kernel
theorem dX9_parse_52 : decode cX9_parse 52 = .ok (.aload_n 0, 1) := by decide +kernel
theorem dX9_parse_53 : decode cX9_parse 53 = .ok (.getfield 29, 3) := by decide +kernel
theorem dX9_parse_56 : decode cX9_parse 56 = .ok (.iconst (-1), 1) := by decide +kernel
theorem dX9_parse_57 : decode cX9_parse 57 = .ok (.if_icmp .ne 18, 3) := by decide +kernel
theorem dX9_parse_60 : decode cX9_parse 60 = .ok (.aload_n 0, 1) := by decide +kernel
theorem dX9_parse_61 : decode cX9_parse 61 = .ok (.aload_n 0, 1) := by decide +kernel
theorem dX9_parse_62 : decode cX9_parse 62 = .ok (.getfield 32, 3) := by decide +kernel
theorem dX9_parse_65 : decode cX9_parse 65 = .ok (.invokevirtual 39, 3) := by decide +kernel
theorem dX9_parse_68 : decode cX9_parse 68 = .ok (.ifCond .eq 7, 3) := by decide +kernel
theorem dX9_parse_71 : decode cX9_parse 71 = .ok (.aload_n 0, 1) := by decide +kernel
theorem dX9_parse_72 : decode cX9_parse 72 = .ok (.invokevirtual 43, 3) := by decide +kernel
theorem dX9_parse_75 : decode cX9_parse 75 = .ok (.aload_n 0, 1) := by decide +kernel
theorem dX9_parse_76 : decode cX9_parse 76 = .ok (.getfield 29, 3) := by decide +kernel
theorem dX9_parse_79 : decode cX9_parse 79 = .ok (.iconst (-1), 1) := by decide +kernel
theorem dX9_parse_80 : decode cX9_parse 80 = .ok (.if_icmp .ne 22, 3) := by decide +kernel
theorem dX9_parse_83 : decode cX9_parse 83 = .ok (.aload_n 0, 1) := by decide +kernel
theorem dX9_parse_84 : decode cX9_parse 84 = .ok (.getfield 32, 3) := by decide +kernel
theorem dX9_parse_87 : decode cX9_parse 87 = .ok (.aload_n 0, 1) := by decide +kernel
theorem dX9_parse_88 : decode cX9_parse 88 = .ok (.getfield 22, 3) := by decide +kernel
theorem dX9_parse_91 : decode cX9_parse 91 = .ok (.if_icmp .ge 11, 3) := by decide +kernel
theorem dX9_parse_94 : decode cX9_parse 94 = .ok (.aload_n 0, 1) := by decide +kernel
theorem dX9_parse_95 : decode cX9_parse 95 = .ok (.aload_n 0, 1) := by decide +kernel
theorem dX9_parse_96 : decode cX9_parse 96 = .ok (.getfield 32, 3) := by decide +kernel
theorem dX9_parse_99 : decode cX9_parse 99 = .ok (.putfield 29, 3) := by decide +kernel
theorem dX9_parse_102 : decode cX9_parse 102 = .ok (.return_, 1) := by decide +kernel
theorem dX9_takeGained_0 : decode cX9_takeGained 0 = .ok (.aload_n 0, 1) := by decide +kernel
theorem dX9_takeGained_1 : decode cX9_takeGained 1 = .ok (.aload_n 0, 1) := by decide +kernel
theorem dX9_takeGained_2 : decode cX9_takeGained 2 = .ok (.getfield 32, 3) := by decide +kernel
theorem dX9_takeGained_5 : decode cX9_takeGained 5 = .ok (.invokevirtual 39, 3) := by decide +kernel
theorem dX9_takeGained_8 : decode cX9_takeGained 8 = .ok (.istore_n 1, 1) := by decide +kernel
theorem dX9_takeGained_9 : decode cX9_takeGained 9 = .ok (.aload_n 0, 1) := by decide +kernel
theorem dX9_takeGained_10 : decode cX9_takeGained 10 = .ok (.dup, 1) := by decide +kernel
theorem dX9_takeGained_11 : decode cX9_takeGained 11 = .ok (.getfield 32, 3) := by decide +kernel
theorem dX9_takeGained_14 : decode cX9_takeGained 14 = .ok (.iconst 2, 1) := by decide +kernel
theorem dX9_takeGained_15 : decode cX9_takeGained 15 = .ok (.iadd, 1) := by decide +kernel
theorem dX9_takeGained_16 : decode cX9_takeGained 16 = .ok (.putfield 32, 3) := by decide +kernel
theorem dX9_takeGained_19 : decode cX9_takeGained 19 = .ok (.aload_n 0, 1) := by decide +kernel
theorem dX9_takeGained_20 : decode cX9_takeGained 20 = .ok (.bipush 40, 2) := by decide +kernel
theorem dX9_takeGained_22 : decode cX9_takeGained 22 = .ok (.invokevirtual 46, 3) := by decide +kernel
theorem dX9_takeGained_25 : decode cX9_takeGained 25 = .ok (.aload_n 0, 1) := by decide +kernel
theorem dX9_takeGained_26 : decode cX9_takeGained 26 = .ok (.getfield 29, 3) := by decide +kernel
theorem dX9_takeGained_29 : decode cX9_takeGained 29 = .ok (.iconst (-1), 1) := by decide +kernel
theorem dX9_takeGained_30 : decode cX9_takeGained 30 = .ok (.if_icmp .ne 12, 3) := by decide +kernel
theorem dX9_takeGained_33 : decode cX9_takeGained 33 = .ok (.aload_n 0, 1) := by decide +kernel
theorem dX9_takeGained_34 : decode cX9_takeGained 34 = .ok (.aload_n 0, 1) := by decide +kernel
theorem dX9_takeGained_35 : decode cX9_takeGained 35 = .ok (.getfield 19, 3) := by decide +kernel
theorem dX9_takeGained_38 : decode cX9_takeGained 38 = .ok (.iconst 0, 1) := by decide +kernel
theorem dX9_takeGained_39 : decode cX9_takeGained 39 = .ok (.invokevirtual 35, 3) := by decide +kernel
theorem dX9_takeGained_42 : decode cX9_takeGained 42 = .ok (.aload_n 0, 1) := by decide +kernel
theorem dX9_takeGained_43 : decode cX9_takeGained 43 = .ok (.getfield 29, 3) := by decide +kernel
theorem dX9_takeGained_46 : decode cX9_takeGained 46 = .ok (.iconst (-1), 1) := by decide +kernel
theorem dX9_takeGained_47 : decode cX9_takeGained 47 = .ok (.if_icmp .ne 9, 3) := by decide +kernel
theorem dX9_takeGained_50 : decode cX9_takeGained 50 = .ok (.aload_n 0, 1) := by decide +kernel
theorem dX9_takeGained_51 : decode cX9_takeGained 51 = .ok (.bipush 41, 2) := by decide +kernel
theorem dX9_takeGained_53 : decode cX9_takeGained 53 = .ok (.invokevirtual 46, 3) := by decide +kernel
theorem dX9_takeGained_56 : decode cX9_takeGained 56 = .ok (.iconst 0, 1) := by decide +kernel
theorem dX9_takeGained_57 : decode cX9_takeGained 57 = .ok (.istore_n 2, 1) := by decide +kernel
theorem dX9_takeGained_58 : decode cX9_takeGained 58 = .ok (.iload_n 2, 1) := by decide +kernel
theorem dX9_takeGained_59 : decode cX9_takeGained 59 = .ok (.bipush 7, 2) := by decide +kernel
theorem dX9_takeGained_61 : decode cX9_takeGained 61 = .ok (.if_icmp .ge 20, 3) := by decide +kernel
theorem dX9_takeGained_64 : decode cX9_takeGained 64 = .ok (.aload_n 0, 1) := by decide +kernel
theorem dX9_takeGained_65 : decode cX9_takeGained 65 = .ok (.getfield 19, 3) := by decide +kernel
theorem dX9_takeGained_68 : decode cX9_takeGained 68 = .ok (.iload_n 2, 1) := by decide +kernel
theorem dX9_takeGained_69 : decode cX9_takeGained 69 = .ok (.dup2, 1) := by decide +kernel
theorem dX9_takeGained_70 : decode cX9_takeGained 70 = .ok (.laload, 1) := by decide +kernel
theorem dX9_takeGained_71 : decode cX9_takeGained 71 = .ok (.iload_n 1, 1) := by decide +kernel
theorem dX9_takeGained_72 : decode cX9_takeGained 72 = .ok (.i2l, 1) := by decide +kernel
theorem dX9_takeGained_73 : decode cX9_takeGained 73 = .ok (.lmul, 1) := by decide +kernel
theorem dX9_takeGained_74 : decode cX9_takeGained 74 = .ok (.lastore, 1) := by decide +kernel
theorem dX9_takeGained_75 : decode cX9_takeGained 75 = .ok (.iinc 2 1, 3) := by decide +kernel
theorem dX9_takeGained_78 : decode cX9_takeGained 78 = .ok (.goto (-20), 3) := by decide +kernel
theorem dX9_takeGained_81 : decode cX9_takeGained 81 = .ok (.return_, 1) := by decide +kernel
theorem dX9_takeTerms_0 : decode cX9_takeTerms 0 = .ok (.iconst 1, 1) := by decide +kernel
theorem dX9_takeTerms_1 : decode cX9_takeTerms 1 = .ok (.istore_n 3, 1) := by decide +kernel
theorem dX9_takeTerms_2 : decode cX9_takeTerms 2 = .ok (.aload_n 0, 1) := by decide +kernel
theorem dX9_takeTerms_3 : decode cX9_takeTerms 3 = .ok (.aload_n 0, 1) := by decide +kernel
theorem dX9_takeTerms_4 : decode cX9_takeTerms 4 = .ok (.getfield 32, 3) := by decide +kernel
theorem dX9_takeTerms_7 : decode cX9_takeTerms 7 = .ok (.invokevirtual 50, 3) := by decide +kernel
theorem dX9_takeTerms_10 : decode cX9_takeTerms 10 = .ok (.bipush 45, 2) := by decide +kernel
theorem dX9_takeTerms_12 : decode cX9_takeTerms 12 = .ok (.if_icmp .ne 15, 3) := by decide +kernel
theorem dX9_takeTerms_15 : decode cX9_takeTerms 15 = .ok (.iconst (-1), 1) := by decide +kernel
theorem dX9_takeTerms_16 : decode cX9_takeTerms 16 = .ok (.istore_n 3, 1) := by decide +kernel
theorem dX9_takeTerms_17 : decode cX9_takeTerms 17 = .ok (.aload_n 0, 1) := by decide +kernel
theorem dX9_takeTerms_18 : decode cX9_takeTerms 18 = .ok (.dup, 1) := by decide +kernel
theorem dX9_takeTerms_19 : decode cX9_takeTerms 19 = .ok (.getfield 32, 3) := by decide +kernel
theorem dX9_takeTerms_22 : decode cX9_takeTerms 22 = .ok (.iconst 1, 1) := by decide +kernel
theorem dX9_takeTerms_23 : decode cX9_takeTerms 23 = .ok (.iadd, 1) := by decide +kernel
theorem dX9_takeTerms_24 : decode cX9_takeTerms 24 = .ok (.putfield 32, 3) := by decide +kernel
theorem dX9_takeTerms_27 : decode cX9_takeTerms 27 = .ok (.aload_n 0, 1) := by decide +kernel
theorem dX9_takeTerms_28 : decode cX9_takeTerms 28 = .ok (.aload_n 1, 1) := by decide +kernel
theorem dX9_takeTerms_29 : decode cX9_takeTerms 29 = .ok (.iload_n 3, 1) := by decide +kernel
theorem dX9_takeTerms_30 : decode cX9_takeTerms 30 = .ok (.invokevirtual 53, 3) := by decide +kernel
theorem dX9_takeTerms_33 : decode cX9_takeTerms 33 = .ok (.iconst 0, 1) := by decide +kernel
theorem dX9_takeTerms_34 : decode cX9_takeTerms 34 = .ok (.istore 4, 2) := by decide +kernel
theorem dX9_takeTerms_36 : decode cX9_takeTerms 36 = .ok (.iload 4, 2) := by decide +kernel
theorem dX9_takeTerms_38 : decode cX9_takeTerms 38 = .ok (.bipush 60, 2) := by decide +kernel
theorem dX9_takeTerms_40 : decode cX9_takeTerms 40 = .ok (.if_icmp .ge 66, 3) := by decide +kernel
theorem dX9_takeTerms_43 : decode cX9_takeTerms 43 = .ok (.aload_n 0, 1) := by decide +kernel
theorem dX9_takeTerms_44 : decode cX9_takeTerms 44 = .ok (.getfield 29, 3) := by decide +kernel
theorem dX9_takeTerms_47 : decode cX9_takeTerms 47 = .ok (.iconst (-1), 1) := by decide +kernel
theorem dX9_takeTerms_48 : decode cX9_takeTerms 48 = .ok (.if_icmp .ne 58, 3) := by decide +kernel
theorem dX9_takeTerms_51 : decode cX9_takeTerms 51 = .ok (.aload_n 0, 1) := by decide +kernel
theorem dX9_takeTerms_52 : decode cX9_takeTerms 52 = .ok (.aload_n 0, 1) := by decide +kernel
theorem dX9_takeTerms_53 : decode cX9_takeTerms 53 = .ok (.getfield 32, 3) := by decide +kernel
theorem dX9_takeTerms_56 : decode cX9_takeTerms 56 = .ok (.invokevirtual 39, 3) := by decide +kernel
theorem dX9_takeTerms_59 : decode cX9_takeTerms 59 = .ok (.istore_n 3, 1) := by decide +kernel
theorem dX9_takeTerms_60 : decode cX9_takeTerms 60 = .ok (.iload_n 3, 1) := by decide +kernel
theorem dX9_takeTerms_61 : decode cX9_takeTerms 61 = .ok (.ifCond .eq 22, 3) := by decide +kernel
theorem dX9_takeTerms_64 : decode cX9_takeTerms 64 = .ok (.iload_n 2, 1) := by decide +kernel
theorem dX9_takeTerms_65 : decode cX9_takeTerms 65 = .ok (.ifCond .eq 19, 3) := by decide +kernel
theorem dX9_takeTerms_68 : decode cX9_takeTerms 68 = .ok (.aload_n 0, 1) := by decide +kernel
theorem dX9_takeTerms_69 : decode cX9_takeTerms 69 = .ok (.aload_n 0, 1) := by decide +kernel
theorem dX9_takeTerms_70 : decode cX9_takeTerms 70 = .ok (.getfield 32, 3) := by decide +kernel
theorem dX9_takeTerms_73 : decode cX9_takeTerms 73 = .ok (.iconst 1, 1) := by decide +kernel
theorem dX9_takeTerms_74 : decode cX9_takeTerms 74 = .ok (.iadd, 1) := by decide +kernel
theorem dX9_takeTerms_75 : decode cX9_takeTerms 75 = .ok (.invokevirtual 50, 3) := by decide +kernel
theorem dX9_takeTerms_78 : decode cX9_takeTerms 78 = .ok (.bipush 75, 2) := by decide +kernel
theorem dX9_takeTerms_80 : decode cX9_takeTerms 80 = .ok (.if_icmp .ne 4, 3) := by decide +kernel
theorem dX9_takeTerms_83 : decode cX9_takeTerms 83 = .ok (.return_, 1) := by decide +kernel
theorem dX9_takeTerms_84 : decode cX9_takeTerms 84 = .ok (.aload_n 0, 1) := by decide +kernel
theorem dX9_takeTerms_85 : decode cX9_takeTerms 85 = .ok (.dup, 1) := by decide +kernel
theorem dX9_takeTerms_86 : decode cX9_takeTerms 86 = .ok (.getfield 32, 3) := by decide +kernel
theorem dX9_takeTerms_89 : decode cX9_takeTerms 89 = .ok (.iconst 1, 1) := by decide +kernel
theorem dX9_takeTerms_90 : decode cX9_takeTerms 90 = .ok (.iadd, 1) := by decide +kernel
theorem dX9_takeTerms_91 : decode cX9_takeTerms 91 = .ok (.putfield 32, 3) := by decide +kernel
theorem dX9_takeTerms_94 : decode cX9_takeTerms 94 = .ok (.aload_n 0, 1) := by decide +kernel
theorem dX9_takeTerms_95 : decode cX9_takeTerms 95 = .ok (.aload_n 1, 1) := by decide +kernel
theorem dX9_takeTerms_96 : decode cX9_takeTerms 96 = .ok (.iload_n 3, 1) := by decide +kernel
theorem dX9_takeTerms_97 : decode cX9_takeTerms 97 = .ok (.invokevirtual 53, 3) := by decide +kernel
theorem dX9_takeTerms_100 : decode cX9_takeTerms 100 = .ok (.iinc 4 1, 3) := by decide +kernel
theorem dX9_takeTerms_103 : decode cX9_takeTerms 103 = .ok (.goto (-67), 3) := by decide +kernel
theorem dX9_takeTerms_106 : decode cX9_takeTerms 106 = .ok (.return_, 1) := by decide +kernel
theorem dX9_takeTerm_0 : decode cX9_takeTerm 0 = .ok (.aload_n 0, 1) := by decide +kernel
theorem dX9_takeTerm_1 : decode cX9_takeTerm 1 = .ok (.getfield 32, 3) := by decide +kernel
theorem dX9_takeTerm_4 : decode cX9_takeTerm 4 = .ok (.istore_n 3, 1) := by decide +kernel
theorem dX9_takeTerm_5 : decode cX9_takeTerm 5 = .ok (.aload_n 0, 1) := by decide +kernel
theorem dX9_takeTerm_6 : decode cX9_takeTerm 6 = .ok (.invokevirtual 57, 3) := by decide +kernel
theorem dX9_takeTerm_9 : decode cX9_takeTerm 9 = .ok (.istore 4, 2) := by decide +kernel
theorem dX9_takeTerm_11 : decode cX9_takeTerm 11 = .ok (.iconst 0, 1) := by decide +kernel
theorem dX9_takeTerm_12 : decode cX9_takeTerm 12 = .ok (.istore 5, 2) := by decide +kernel
theorem dX9_takeTerm_14 : decode cX9_takeTerm 14 = .ok (.aload_n 0, 1) := by decide +kernel
theorem dX9_takeTerm_15 : decode cX9_takeTerm 15 = .ok (.aload_n 0, 1) := by decide +kernel
theorem dX9_takeTerm_16 : decode cX9_takeTerm 16 = .ok (.getfield 32, 3) := by decide +kernel
theorem dX9_takeTerm_19 : decode cX9_takeTerm 19 = .ok (.invokevirtual 50, 3) := by decide +kernel
theorem dX9_takeTerm_22 : decode cX9_takeTerm 22 = .ok (.bipush 115, 2) := by decide +kernel
theorem dX9_takeTerm_24 : decode cX9_takeTerm 24 = .ok (.if_icmp .ne 35, 3) := by decide +kernel
theorem dX9_takeTerm_27 : decode cX9_takeTerm 27 = .ok (.aload_n 0, 1) := by decide +kernel
theorem dX9_takeTerm_28 : decode cX9_takeTerm 28 = .ok (.getfield 32, 3) := by decide +kernel
theorem dX9_takeTerm_31 : decode cX9_takeTerm 31 = .ok (.iload_n 3, 1) := by decide +kernel
theorem dX9_takeTerm_32 : decode cX9_takeTerm 32 = .ok (.if_icmp .ne 7, 3) := by decide +kernel
theorem dX9_takeTerm_35 : decode cX9_takeTerm 35 = .ok (.iconst 1, 1) := by decide +kernel
theorem dX9_takeTerm_36 : decode cX9_takeTerm 36 = .ok (.goto 5, 3) := by decide +kernel
theorem dX9_takeTerm_39 : decode cX9_takeTerm 39 = .ok (.iload 4, 2) := by decide +kernel
theorem dX9_takeTerm_41 : decode cX9_takeTerm 41 = .ok (.istore 4, 2) := by decide +kernel
theorem dX9_takeTerm_43 : decode cX9_takeTerm 43 = .ok (.aload_n 0, 1) := by decide +kernel
theorem dX9_takeTerm_44 : decode cX9_takeTerm 44 = .ok (.dup, 1) := by decide +kernel
theorem dX9_takeTerm_45 : decode cX9_takeTerm 45 = .ok (.getfield 32, 3) := by decide +kernel
theorem dX9_takeTerm_48 : decode cX9_takeTerm 48 = .ok (.iconst 1, 1) := by decide +kernel
theorem dX9_takeTerm_49 : decode cX9_takeTerm 49 = .ok (.iadd, 1) := by decide +kernel
theorem dX9_takeTerm_50 : decode cX9_takeTerm 50 = .ok (.putfield 32, 3) := by decide +kernel
theorem dX9_takeTerm_53 : decode cX9_takeTerm 53 = .ok (.aload_n 0, 1) := by decide +kernel
theorem dX9_takeTerm_54 : decode cX9_takeTerm 54 = .ok (.invokevirtual 61, 3) := by decide +kernel
theorem dX9_takeTerm_57 : decode cX9_takeTerm 57 = .ok (.istore 5, 2) := by decide +kernel
theorem dX9_takeTerm_59 : decode cX9_takeTerm 59 = .ok (.aload_n 0, 1) := by decide +kernel
theorem dX9_takeTerm_60 : decode cX9_takeTerm 60 = .ok (.getfield 32, 3) := by decide +kernel
theorem dX9_takeTerm_63 : decode cX9_takeTerm 63 = .ok (.iload_n 3, 1) := by decide +kernel
theorem dX9_takeTerm_64 : decode cX9_takeTerm 64 = .ok (.if_icmp .ne 12, 3) := by decide +kernel
theorem dX9_takeTerm_67 : decode cX9_takeTerm 67 = .ok (.aload_n 0, 1) := by decide +kernel
theorem dX9_takeTerm_68 : decode cX9_takeTerm 68 = .ok (.aload_n 0, 1) := by decide +kernel
theorem dX9_takeTerm_69 : decode cX9_takeTerm 69 = .ok (.getfield 32, 3) := by decide +kernel
theorem dX9_takeTerm_72 : decode cX9_takeTerm 72 = .ok (.putfield 29, 3) := by decide +kernel
theorem dX9_takeTerm_75 : decode cX9_takeTerm 75 = .ok (.return_, 1) := by decide +kernel
theorem dX9_takeTerm_76 : decode cX9_takeTerm 76 = .ok (.aload_n 0, 1) := by decide +kernel
theorem dX9_takeTerm_77 : decode cX9_takeTerm 77 = .ok (.dup, 1) := by decide +kernel
theorem dX9_takeTerm_78 : decode cX9_takeTerm 78 = .ok (.getfield 26, 3) := by decide +kernel
theorem dX9_takeTerm_81 : decode cX9_takeTerm 81 = .ok (.iconst 1, 1) := by decide +kernel
theorem dX9_takeTerm_82 : decode cX9_takeTerm 82 = .ok (.iadd, 1) := by decide +kernel
theorem dX9_takeTerm_83 : decode cX9_takeTerm 83 = .ok (.putfield 26, 3) := by decide +kernel
theorem dX9_takeTerm_86 : decode cX9_takeTerm 86 = .ok (.aload_n 1, 1) := by decide +kernel
theorem dX9_takeTerm_87 : decode cX9_takeTerm 87 = .ok (.iload 5, 2) := by decide +kernel
theorem dX9_takeTerm_89 : decode cX9_takeTerm 89 = .ok (.dup2, 1) := by decide +kernel
theorem dX9_takeTerm_90 : decode cX9_takeTerm 90 = .ok (.laload, 1) := by decide +kernel
theorem dX9_takeTerm_91 : decode cX9_takeTerm 91 = .ok (.iload_n 2, 1) := by decide +kernel
theorem dX9_takeTerm_92 : decode cX9_takeTerm 92 = .ok (.iload 4, 2) := by decide +kernel
theorem dX9_takeTerm_94 : decode cX9_takeTerm 94 = .ok (.imul, 1) := by decide +kernel
theorem dX9_takeTerm_95 : decode cX9_takeTerm 95 = .ok (.i2l, 1) := by decide +kernel
theorem dX9_takeTerm_96 : decode cX9_takeTerm 96 = .ok (.ladd, 1) := by decide +kernel
theorem dX9_takeTerm_97 : decode cX9_takeTerm 97 = .ok (.lastore, 1) := by decide +kernel
theorem dX9_takeTerm_98 : decode cX9_takeTerm 98 = .ok (.aload_n 1, 1) := by decide +kernel
theorem dX9_takeTerm_99 : decode cX9_takeTerm 99 = .ok (.iload 5, 2) := by decide +kernel
theorem dX9_takeTerm_101 : decode cX9_takeTerm 101 = .ok (.laload, 1) := by decide +kernel
theorem dX9_takeTerm_102 : decode cX9_takeTerm 102 = .ok (.ldc2_w 64, 3) := by decide +kernel
theorem dX9_takeTerm_105 : decode cX9_takeTerm 105 = .ok (.lcmp, 1) := by decide +kernel
theorem dX9_takeTerm_106 : decode cX9_takeTerm 106 = .ok (.ifCond .lt 14, 3) := by decide +kernel
theorem dX9_takeTerm_109 : decode cX9_takeTerm 109 = .ok (.aload_n 1, 1) := by decide +kernel
theorem dX9_takeTerm_110 : decode cX9_takeTerm 110 = .ok (.iload 5, 2) := by decide +kernel
theorem dX9_takeTerm_112 : decode cX9_takeTerm 112 = .ok (.laload, 1) := by decide +kernel
theorem dX9_takeTerm_113 : decode cX9_takeTerm 113 = .ok (.ldc2_w 66, 3) := by decide +kernel
theorem dX9_takeTerm_116 : decode cX9_takeTerm 116 = .ok (.lcmp, 1) := by decide +kernel
theorem dX9_takeTerm_117 : decode cX9_takeTerm 117 = .ok (.ifCond .le 8, 3) := by decide +kernel
theorem dX9_takeTerm_120 : decode cX9_takeTerm 120 = .ok (.aload_n 0, 1) := by decide +kernel
theorem dX9_takeTerm_121 : decode cX9_takeTerm 121 = .ok (.iload_n 3, 1) := by decide +kernel
