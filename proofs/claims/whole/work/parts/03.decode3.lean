theorem dX11_unfactor_32 : decode cX11_unfactor 32 = .ok (.ireturn, 1) := by decide +kernel
theorem dX11_known_0 : decode cX11_known 0 = .ok (.iload_n 1, 1) := by decide +kernel
theorem dX11_known_1 : decode cX11_known 1 = .ok (.tableswitch 63 0 3 #[31, 39, 47, 55], 31) := by decide +kernel
theorem dX11_known_32 : decode cX11_known 32 = .ok (.aload_n 0, 1) := by decide +kernel
theorem dX11_known_33 : decode cX11_known 33 = .ok (.getfield 14, 3) := by decide +kernel
theorem dX11_known_36 : decode cX11_known 36 = .ok (.invokevirtual 285, 3) := by decide +kernel
theorem dX11_known_39 : decode cX11_known 39 = .ok (.ireturn, 1) := by decide +kernel
theorem dX11_known_40 : decode cX11_known 40 = .ok (.aload_n 0, 1) := by decide +kernel
theorem dX11_known_41 : decode cX11_known 41 = .ok (.getfield 14, 3) := by decide +kernel
theorem dX11_known_44 : decode cX11_known 44 = .ok (.invokevirtual 288, 3) := by decide +kernel
theorem dX11_known_47 : decode cX11_known 47 = .ok (.ireturn, 1) := by decide +kernel
theorem dX11_known_48 : decode cX11_known 48 = .ok (.aload_n 0, 1) := by decide +kernel
theorem dX11_known_49 : decode cX11_known 49 = .ok (.getfield 14, 3) := by decide +kernel
theorem dX11_known_52 : decode cX11_known 52 = .ok (.invokevirtual 291, 3) := by decide +kernel
theorem dX11_known_55 : decode cX11_known 55 = .ok (.ireturn, 1) := by decide +kernel
theorem dX11_known_56 : decode cX11_known 56 = .ok (.aload_n 0, 1) := by decide +kernel
theorem dX11_known_57 : decode cX11_known 57 = .ok (.getfield 14, 3) := by decide +kernel
theorem dX11_known_60 : decode cX11_known 60 = .ok (.invokevirtual 294, 3) := by decide +kernel
theorem dX11_known_63 : decode cX11_known 63 = .ok (.ireturn, 1) := by decide +kernel
theorem dX11_known_64 : decode cX11_known 64 = .ok (.bipush (-2), 2) := by decide +kernel
theorem dX11_known_66 : decode cX11_known 66 = .ok (.ireturn, 1) := by decide +kernel
theorem dX11_multiply_0 : decode cX11_multiply 0 = .ok (.aload_n 0, 1) := by decide +kernel
theorem dX11_multiply_1 : decode cX11_multiply 1 = .ok (.getfield 14, 3) := by decide +kernel
theorem dX11_multiply_4 : decode cX11_multiply 4 = .ok (.invokevirtual 294, 3) := by decide +kernel
theorem dX11_multiply_7 : decode cX11_multiply 7 = .ok (.istore_n 1, 1) := by decide +kernel
theorem dX11_multiply_8 : decode cX11_multiply 8 = .ok (.iload_n 1, 1) := by decide +kernel
theorem dX11_multiply_9 : decode cX11_multiply 9 = .ok (.bipush 7, 2) := by decide +kernel
theorem dX11_multiply_11 : decode cX11_multiply 11 = .ok (.if_icmp .lt 6, 3) := by decide +kernel
theorem dX11_multiply_14 : decode cX11_multiply 14 = .ok (.bipush (-3), 2) := by decide +kernel
theorem dX11_multiply_16 : decode cX11_multiply 16 = .ok (.ireturn, 1) := by decide +kernel
theorem dX11_multiply_17 : decode cX11_multiply 17 = .ok (.aload_n 0, 1) := by decide +kernel
theorem dX11_multiply_18 : decode cX11_multiply 18 = .ok (.getfield 14, 3) := by decide +kernel
theorem dX11_multiply_21 : decode cX11_multiply 21 = .ok (.aload_n 0, 1) := by decide +kernel
theorem dX11_multiply_22 : decode cX11_multiply 22 = .ok (.getfield 74, 3) := by decide +kernel
theorem dX11_multiply_25 : decode cX11_multiply 25 = .ok (.invokevirtual 297, 3) := by decide +kernel
theorem dX11_multiply_28 : decode cX11_multiply 28 = .ok (.iconst 0, 1) := by decide +kernel
theorem dX11_multiply_29 : decode cX11_multiply 29 = .ok (.istore_n 2, 1) := by decide +kernel
theorem dX11_multiply_30 : decode cX11_multiply 30 = .ok (.iload_n 2, 1) := by decide +kernel
theorem dX11_multiply_31 : decode cX11_multiply 31 = .ok (.bipush 7, 2) := by decide +kernel
theorem dX11_multiply_33 : decode cX11_multiply 33 = .ok (.if_icmp .ge 38, 3) := by decide +kernel
theorem dX11_multiply_36 : decode cX11_multiply 36 = .ok (.aload_n 0, 1) := by decide +kernel
theorem dX11_multiply_37 : decode cX11_multiply 37 = .ok (.getfield 74, 3) := by decide +kernel
theorem dX11_multiply_40 : decode cX11_multiply 40 = .ok (.iload_n 2, 1) := by decide +kernel
theorem dX11_multiply_41 : decode cX11_multiply 41 = .ok (.laload, 1) := by decide +kernel
theorem dX11_multiply_42 : decode cX11_multiply 42 = .ok (.ldc2_w 301, 3) := by decide +kernel
theorem dX11_multiply_45 : decode cX11_multiply 45 = .ok (.lcmp, 1) := by decide +kernel
theorem dX11_multiply_46 : decode cX11_multiply 46 = .ok (.ifCond .lt 16, 3) := by decide +kernel
theorem dX11_multiply_49 : decode cX11_multiply 49 = .ok (.aload_n 0, 1) := by decide +kernel
theorem dX11_multiply_50 : decode cX11_multiply 50 = .ok (.getfield 74, 3) := by decide +kernel
theorem dX11_multiply_53 : decode cX11_multiply 53 = .ok (.iload_n 2, 1) := by decide +kernel
theorem dX11_multiply_54 : decode cX11_multiply 54 = .ok (.laload, 1) := by decide +kernel
theorem dX11_multiply_55 : decode cX11_multiply 55 = .ok (.ldc2_w 303, 3) := by decide +kernel
theorem dX11_multiply_58 : decode cX11_multiply 58 = .ok (.lcmp, 1) := by decide +kernel
theorem dX11_multiply_59 : decode cX11_multiply 59 = .ok (.ifCond .le 6, 3) := by decide +kernel
theorem dX11_multiply_62 : decode cX11_multiply 62 = .ok (.bipush (-7), 2) := by decide +kernel
theorem dX11_multiply_64 : decode cX11_multiply 64 = .ok (.ireturn, 1) := by decide +kernel
theorem dX11_multiply_65 : decode cX11_multiply 65 = .ok (.iinc 2 1, 3) := by decide +kernel
theorem dX11_multiply_68 : decode cX11_multiply 68 = .ok (.goto (-38), 3) := by decide +kernel
theorem dX11_multiply_71 : decode cX11_multiply 71 = .ok (.aload_n 0, 1) := by decide +kernel
theorem dX11_multiply_72 : decode cX11_multiply 72 = .ok (.getfield 74, 3) := by decide +kernel
theorem dX11_multiply_75 : decode cX11_multiply 75 = .ok (.iconst 0, 1) := by decide +kernel
theorem dX11_multiply_76 : decode cX11_multiply 76 = .ok (.aload_n 0, 1) := by decide +kernel
theorem dX11_multiply_77 : decode cX11_multiply 77 = .ok (.getfield 14, 3) := by decide +kernel
theorem dX11_multiply_80 : decode cX11_multiply 80 = .ok (.getfield 78, 3) := by decide +kernel
theorem dX11_multiply_83 : decode cX11_multiply 83 = .ok (.iconst 0, 1) := by decide +kernel
theorem dX11_multiply_84 : decode cX11_multiply 84 = .ok (.bipush 7, 2) := by decide +kernel
theorem dX11_multiply_86 : decode cX11_multiply 86 = .ok (.invokestatic 119, 3) := by decide +kernel
theorem dX11_multiply_89 : decode cX11_multiply 89 = .ok (.aload_n 0, 1) := by decide +kernel
theorem dX11_multiply_90 : decode cX11_multiply 90 = .ok (.invokevirtual 95, 3) := by decide +kernel
theorem dX11_multiply_93 : decode cX11_multiply 93 = .ok (.iload_n 1, 1) := by decide +kernel
theorem dX11_multiply_94 : decode cX11_multiply 94 = .ok (.ireturn, 1) := by decide +kernel
theorem dX11_rights_0 : decode cX11_rights 0 = .ok (.iload_n 1, 1) := by decide +kernel
theorem dX11_rights_1 : decode cX11_rights 1 = .ok (.bipush 100, 2) := by decide +kernel
theorem dX11_rights_3 : decode cX11_rights 3 = .ok (.invokestatic 86, 3) := by decide +kernel
theorem dX11_rights_6 : decode cX11_rights 6 = .ok (.ifCond .ne 6, 3) := by decide +kernel
theorem dX11_rights_9 : decode cX11_rights 9 = .ok (.bipush (-2), 2) := by decide +kernel
theorem dX11_rights_11 : decode cX11_rights 11 = .ok (.ireturn, 1) := by decide +kernel
theorem dX11_rights_12 : decode cX11_rights 12 = .ok (.aload_n 0, 1) := by decide +kernel
theorem dX11_rights_13 : decode cX11_rights 13 = .ok (.getfield 70, 3) := by decide +kernel
theorem dX11_rights_16 : decode cX11_rights 16 = .ok (.aload_n 0, 1) := by decide +kernel
theorem dX11_rights_17 : decode cX11_rights 17 = .ok (.getfield 14, 3) := by decide +kernel
theorem dX11_rights_20 : decode cX11_rights 20 = .ok (.invokevirtual 305, 3) := by decide +kernel
theorem dX11_rights_23 : decode cX11_rights 23 = .ok (.aload_n 0, 1) := by decide +kernel
theorem dX11_rights_24 : decode cX11_rights 24 = .ok (.getfield 70, 3) := by decide +kernel
theorem dX11_rights_27 : decode cX11_rights 27 = .ok (.iload_n 1, 1) := by decide +kernel
theorem dX11_rights_28 : decode cX11_rights 28 = .ok (.invokevirtual 309, 3) := by decide +kernel
theorem dX11_rights_31 : decode cX11_rights 31 = .ok (.ireturn, 1) := by decide +kernel
theorem dX11_jumps_0 : decode cX11_jumps 0 = .ok (.aload_n 0, 1) := by decide +kernel
theorem dX11_jumps_1 : decode cX11_jumps 1 = .ok (.getfield 70, 3) := by decide +kernel
theorem dX11_jumps_4 : decode cX11_jumps 4 = .ok (.aload_n 0, 1) := by decide +kernel
theorem dX11_jumps_5 : decode cX11_jumps 5 = .ok (.getfield 14, 3) := by decide +kernel
theorem dX11_jumps_8 : decode cX11_jumps 8 = .ok (.invokevirtual 305, 3) := by decide +kernel
theorem dX11_jumps_11 : decode cX11_jumps 11 = .ok (.aload_n 0, 1) := by decide +kernel
theorem dX11_jumps_12 : decode cX11_jumps 12 = .ok (.getfield 70, 3) := by decide +kernel
theorem dX11_jumps_15 : decode cX11_jumps 15 = .ok (.invokevirtual 312, 3) := by decide +kernel
theorem dX11_jumps_18 : decode cX11_jumps 18 = .ok (.ireturn, 1) := by decide +kernel
theorem dX11_jump_0 : decode cX11_jump 0 = .ok (.aload_n 0, 1) := by decide +kernel
theorem dX11_jump_1 : decode cX11_jump 1 = .ok (.getfield 70, 3) := by decide +kernel
theorem dX11_jump_4 : decode cX11_jump 4 = .ok (.aload_n 0, 1) := by decide +kernel
theorem dX11_jump_5 : decode cX11_jump 5 = .ok (.getfield 14, 3) := by decide +kernel
theorem dX11_jump_8 : decode cX11_jump 8 = .ok (.invokevirtual 305, 3) := by decide +kernel
theorem dX11_jump_11 : decode cX11_jump 11 = .ok (.iload_n 1, 1) := by decide +kernel
theorem dX11_jump_12 : decode cX11_jump 12 = .ok (.ifCond .lt 14, 3) := by decide +kernel
theorem dX11_jump_15 : decode cX11_jump 15 = .ok (.iload_n 1, 1) := by decide +kernel
theorem dX11_jump_16 : decode cX11_jump 16 = .ok (.aload_n 0, 1) := by decide +kernel
theorem dX11_jump_17 : decode cX11_jump 17 = .ok (.getfield 70, 3) := by decide +kernel
theorem dX11_jump_20 : decode cX11_jump 20 = .ok (.invokevirtual 312, 3) := by decide +kernel
theorem dX11_jump_23 : decode cX11_jump 23 = .ok (.if_icmp .lt 5, 3) := by decide +kernel
theorem dX11_jump_26 : decode cX11_jump 26 = .ok (.iconst (-1), 1) := by decide +kernel
theorem dX11_jump_27 : decode cX11_jump 27 = .ok (.ireturn, 1) := by decide +kernel
theorem dX11_jump_28 : decode cX11_jump 28 = .ok (.aload_n 0, 1) := by decide +kernel
theorem dX11_jump_29 : decode cX11_jump 29 = .ok (.getfield 70, 3) := by decide +kernel
theorem dX11_jump_32 : decode cX11_jump 32 = .ok (.iload_n 1, 1) := by decide +kernel
theorem dX11_jump_33 : decode cX11_jump 33 = .ok (.invokevirtual 315, 3) := by decide +kernel
theorem dX11_jump_36 : decode cX11_jump 36 = .ok (.sipush 1000, 3) := by decide +kernel
theorem dX11_jump_39 : decode cX11_jump 39 = .ok (.iadd, 1) := by decide +kernel
theorem dX11_jump_40 : decode cX11_jump 40 = .ok (.ireturn, 1) := by decide +kernel
theorem dX11_best_0 : decode cX11_best 0 = .ok (.aload_n 0, 1) := by decide +kernel
theorem dX11_best_1 : decode cX11_best 1 = .ok (.getfield 70, 3) := by decide +kernel
theorem dX11_best_4 : decode cX11_best 4 = .ok (.aload_n 0, 1) := by decide +kernel
theorem dX11_best_5 : decode cX11_best 5 = .ok (.getfield 14, 3) := by decide +kernel
theorem dX11_best_8 : decode cX11_best 8 = .ok (.invokevirtual 305, 3) := by decide +kernel
theorem dX11_best_11 : decode cX11_best 11 = .ok (.aload_n 0, 1) := by decide +kernel
theorem dX11_best_12 : decode cX11_best 12 = .ok (.getfield 70, 3) := by decide +kernel
theorem dX11_best_15 : decode cX11_best 15 = .ok (.invokevirtual 318, 3) := by decide +kernel
theorem dX11_best_18 : decode cX11_best 18 = .ok (.ifCond .eq 17, 3) := by decide +kernel
theorem dX11_best_21 : decode cX11_best 21 = .ok (.aload_n 0, 1) := by decide +kernel
theorem dX11_best_22 : decode cX11_best 22 = .ok (.getfield 70, 3) := by decide +kernel
theorem dX11_best_25 : decode cX11_best 25 = .ok (.invokevirtual 322, 3) := by decide +kernel
theorem dX11_best_28 : decode cX11_best 28 = .ok (.sipush 1000, 3) := by decide +kernel
theorem dX11_best_31 : decode cX11_best 31 = .ok (.iadd, 1) := by decide +kernel
theorem dX11_best_32 : decode cX11_best 32 = .ok (.goto 4, 3) := by decide +kernel
theorem dX11_best_35 : decode cX11_best 35 = .ok (.iconst (-1), 1) := by decide +kernel
theorem dX11_best_36 : decode cX11_best 36 = .ok (.ireturn, 1) := by decide +kernel
theorem dX11_tray_0 : decode cX11_tray 0 = .ok (.iload_n 1, 1) := by decide +kernel
theorem dX11_tray_1 : decode cX11_tray 1 = .ok (.invokestatic 325, 3) := by decide +kernel
theorem dX11_tray_4 : decode cX11_tray 4 = .ok (.ifCond .ne 5, 3) := by decide +kernel
theorem dX11_tray_7 : decode cX11_tray 7 = .ok (.iconst (-1), 1) := by decide +kernel
theorem dX11_tray_8 : decode cX11_tray 8 = .ok (.ireturn, 1) := by decide +kernel
theorem dX11_tray_9 : decode cX11_tray 9 = .ok (.iload_n 2, 1) := by decide +kernel
theorem dX11_tray_10 : decode cX11_tray 10 = .ok (.iconst (-1), 1) := by decide +kernel
theorem dX11_tray_11 : decode cX11_tray 11 = .ok (.if_icmp .lt 19, 3) := by decide +kernel
theorem dX11_tray_14 : decode cX11_tray 14 = .ok (.iload_n 2, 1) := by decide +kernel
theorem dX11_tray_15 : decode cX11_tray 15 = .ok (.iconst 1, 1) := by decide +kernel
theorem dX11_tray_16 : decode cX11_tray 16 = .ok (.if_icmp .gt 14, 3) := by decide +kernel
theorem dX11_tray_19 : decode cX11_tray 19 = .ok (.iload_n 2, 1) := by decide +kernel
theorem dX11_tray_20 : decode cX11_tray 20 = .ok (.iconst (-1), 1) := by decide +kernel
theorem dX11_tray_21 : decode cX11_tray 21 = .ok (.if_icmp .eq 12, 3) := by decide +kernel
theorem dX11_tray_24 : decode cX11_tray 24 = .ok (.iload_n 3, 1) := by decide +kernel
theorem dX11_tray_25 : decode cX11_tray 25 = .ok (.bipush 30, 2) := by decide +kernel
theorem dX11_tray_27 : decode cX11_tray 27 = .ok (.if_icmp .le 6, 3) := by decide +kernel
theorem dX11_tray_30 : decode cX11_tray 30 = .ok (.bipush (-2), 2) := by decide +kernel
theorem dX11_tray_32 : decode cX11_tray 32 = .ok (.ireturn, 1) := by decide +kernel
theorem dX11_tray_33 : decode cX11_tray 33 = .ok (.iload_n 2, 1) := by decide +kernel
theorem dX11_tray_34 : decode cX11_tray 34 = .ok (.iconst (-1), 1) := by decide +kernel
theorem dX11_tray_35 : decode cX11_tray 35 = .ok (.if_icmp .eq 10, 3) := by decide +kernel
theorem dX11_tray_38 : decode cX11_tray 38 = .ok (.iload_n 3, 1) := by decide +kernel
theorem dX11_tray_39 : decode cX11_tray 39 = .ok (.ifCond .ge 6, 3) := by decide +kernel
theorem dX11_tray_42 : decode cX11_tray 42 = .ok (.bipush (-14), 2) := by decide +kernel
theorem dX11_tray_44 : decode cX11_tray 44 = .ok (.ireturn, 1) := by decide +kernel
theorem dX11_tray_45 : decode cX11_tray 45 = .ok (.aload_n 0, 1) := by decide +kernel
theorem dX11_tray_46 : decode cX11_tray 46 = .ok (.getfield 30, 3) := by decide +kernel
theorem dX11_tray_49 : decode cX11_tray 49 = .ok (.iload_n 1, 1) := by decide +kernel
theorem dX11_tray_50 : decode cX11_tray 50 = .ok (.aaload, 1) := by decide +kernel
theorem dX11_tray_51 : decode cX11_tray 51 = .ok (.iload_n 2, 1) := by decide +kernel
theorem dX11_tray_52 : decode cX11_tray 52 = .ok (.iload_n 2, 1) := by decide +kernel
theorem dX11_tray_53 : decode cX11_tray 53 = .ok (.iconst (-1), 1) := by decide +kernel
theorem dX11_tray_54 : decode cX11_tray 54 = .ok (.if_icmp .ne 7, 3) := by decide +kernel
theorem dX11_tray_57 : decode cX11_tray 57 = .ok (.iconst 0, 1) := by decide +kernel
theorem dX11_tray_58 : decode cX11_tray 58 = .ok (.goto 4, 3) := by decide +kernel
theorem dX11_tray_61 : decode cX11_tray 61 = .ok (.iload_n 3, 1) := by decide +kernel
theorem dX11_tray_62 : decode cX11_tray 62 = .ok (.invokevirtual 328, 3) := by decide +kernel
theorem dX11_tray_65 : decode cX11_tray 65 = .ok (.iconst 1, 1) := by decide +kernel
theorem dX11_tray_66 : decode cX11_tray 66 = .ok (.ireturn, 1) := by decide +kernel
theorem dX11_put_0 : decode cX11_put 0 = .ok (.iload_n 1, 1) := by decide +kernel
theorem dX11_put_1 : decode cX11_put 1 = .ok (.invokestatic 325, 3) := by decide +kernel
theorem dX11_put_4 : decode cX11_put 4 = .ok (.ifCond .ne 5, 3) := by decide +kernel
theorem dX11_put_7 : decode cX11_put 7 = .ok (.iconst (-1), 1) := by decide +kernel
theorem dX11_put_8 : decode cX11_put 8 = .ok (.ireturn, 1) := by decide +kernel
theorem dX11_put_9 : decode cX11_put 9 = .ok (.aload_n 0, 1) := by decide +kernel
theorem dX11_put_10 : decode cX11_put 10 = .ok (.getfield 30, 3) := by decide +kernel
theorem dX11_put_13 : decode cX11_put 13 = .ok (.iload_n 1, 1) := by decide +kernel
theorem dX11_put_14 : decode cX11_put 14 = .ok (.aaload, 1) := by decide +kernel
theorem dX11_put_15 : decode cX11_put 15 = .ok (.astore 5, 2) := by decide +kernel
theorem dX11_put_17 : decode cX11_put 17 = .ok (.aload 5, 2) := by decide +kernel
theorem dX11_put_19 : decode cX11_put 19 = .ok (.invokevirtual 331, 3) := by decide +kernel
theorem dX11_put_22 : decode cX11_put 22 = .ok (.ifCond .eq 6, 3) := by decide +kernel
theorem dX11_put_25 : decode cX11_put 25 = .ok (.bipush (-11), 2) := by decide +kernel
theorem dX11_put_27 : decode cX11_put 27 = .ok (.ireturn, 1) := by decide +kernel
theorem dX11_put_28 : decode cX11_put 28 = .ok (.iload_n 2, 1) := by decide +kernel
theorem dX11_put_29 : decode cX11_put 29 = .ok (.ifCond .lt 12, 3) := by decide +kernel
theorem dX11_put_32 : decode cX11_put 32 = .ok (.iload_n 2, 1) := by decide +kernel
theorem dX11_put_33 : decode cX11_put 33 = .ok (.aload 5, 2) := by decide +kernel
theorem dX11_put_35 : decode cX11_put 35 = .ok (.getfield 334, 3) := by decide +kernel
theorem dX11_put_38 : decode cX11_put 38 = .ok (.if_icmp .lt 6, 3) := by decide +kernel
theorem dX11_put_41 : decode cX11_put 41 = .ok (.bipush (-13), 2) := by decide +kernel
theorem dX11_put_43 : decode cX11_put 43 = .ok (.ireturn, 1) := by decide +kernel
theorem dX11_put_44 : decode cX11_put 44 = .ok (.aload 5, 2) := by decide +kernel
theorem dX11_put_46 : decode cX11_put 46 = .ok (.iload_n 2, 1) := by decide +kernel
theorem dX11_put_47 : decode cX11_put 47 = .ok (.lload_n 3, 1) := by decide +kernel
theorem dX11_put_48 : decode cX11_put 48 = .ok (.invokevirtual 335, 3) := by decide +kernel
theorem dX11_put_51 : decode cX11_put 51 = .ok (.iconst 1, 1) := by decide +kernel
theorem dX11_put_52 : decode cX11_put 52 = .ok (.ireturn, 1) := by decide +kernel
theorem dX11_get_0 : decode cX11_get 0 = .ok (.iload_n 1, 1) := by decide +kernel
theorem dX11_get_1 : decode cX11_get 1 = .ok (.invokestatic 325, 3) := by decide +kernel
theorem dX11_get_4 : decode cX11_get 4 = .ok (.ifCond .ne 7, 3) := by decide +kernel
theorem dX11_get_7 : decode cX11_get 7 = .ok (.ldc2_w 90, 3) := by decide +kernel
theorem dX11_get_10 : decode cX11_get 10 = .ok (.lreturn, 1) := by decide +kernel
theorem dX11_get_11 : decode cX11_get 11 = .ok (.aload_n 0, 1) := by decide +kernel
theorem dX11_get_12 : decode cX11_get 12 = .ok (.getfield 30, 3) := by decide +kernel
theorem dX11_get_15 : decode cX11_get 15 = .ok (.iload_n 1, 1) := by decide +kernel
theorem dX11_get_16 : decode cX11_get 16 = .ok (.aaload, 1) := by decide +kernel
theorem dX11_get_17 : decode cX11_get 17 = .ok (.astore_n 3, 1) := by decide +kernel
theorem dX11_get_18 : decode cX11_get 18 = .ok (.aload_n 3, 1) := by decide +kernel
theorem dX11_get_19 : decode cX11_get 19 = .ok (.invokevirtual 331, 3) := by decide +kernel
theorem dX11_get_22 : decode cX11_get 22 = .ok (.ifCond .ne 15, 3) := by decide +kernel
theorem dX11_get_25 : decode cX11_get 25 = .ok (.iload_n 2, 1) := by decide +kernel
theorem dX11_get_26 : decode cX11_get 26 = .ok (.ifCond .lt 11, 3) := by decide +kernel
theorem dX11_get_29 : decode cX11_get 29 = .ok (.iload_n 2, 1) := by decide +kernel
theorem dX11_get_30 : decode cX11_get 30 = .ok (.aload_n 3, 1) := by decide +kernel
theorem dX11_get_31 : decode cX11_get 31 = .ok (.getfield 334, 3) := by decide +kernel
theorem dX11_get_34 : decode cX11_get 34 = .ok (.if_icmp .lt 9, 3) := by decide +kernel
theorem dX11_get_37 : decode cX11_get 37 = .ok (.ldc2_w 90, 3) := by decide +kernel
theorem dX11_get_40 : decode cX11_get 40 = .ok (.goto 9, 3) := by decide +kernel
theorem dX11_get_43 : decode cX11_get 43 = .ok (.aload_n 3, 1) := by decide +kernel
theorem dX11_get_44 : decode cX11_get 44 = .ok (.getfield 339, 3) := by decide +kernel
theorem dX11_get_47 : decode cX11_get 47 = .ok (.iload_n 2, 1) := by decide +kernel
theorem dX11_get_48 : decode cX11_get 48 = .ok (.laload, 1) := by decide +kernel
theorem dX11_get_49 : decode cX11_get 49 = .ok (.lreturn, 1) := by decide +kernel
theorem dX11_fill_0 : decode cX11_fill 0 = .ok (.aload_n 0, 1) := by decide +kernel
theorem dX11_fill_1 : decode cX11_fill 1 = .ok (.iload_n 1, 1) := by decide +kernel
theorem dX11_fill_2 : decode cX11_fill 2 = .ok (.iload_n 2, 1) := by decide +kernel
theorem dX11_fill_3 : decode cX11_fill 3 = .ok (.iload_n 3, 1) := by decide +kernel
theorem dX11_fill_4 : decode cX11_fill 4 = .ok (.invokevirtual 342, 3) := by decide +kernel
theorem dX11_fill_7 : decode cX11_fill 7 = .ok (.istore 4, 2) := by decide +kernel
theorem dX11_fill_9 : decode cX11_fill 9 = .ok (.iload 4, 2) := by decide +kernel
theorem dX11_fill_11 : decode cX11_fill 11 = .ok (.ifCond .eq 6, 3) := by decide +kernel
theorem dX11_fill_14 : decode cX11_fill 14 = .ok (.iload 4, 2) := by decide +kernel
theorem dX11_fill_16 : decode cX11_fill 16 = .ok (.ireturn, 1) := by decide +kernel
theorem dX11_fill_17 : decode cX11_fill 17 = .ok (.aload_n 0, 1) := by decide +kernel
theorem dX11_fill_18 : decode cX11_fill 18 = .ok (.getfield 30, 3) := by decide +kernel
theorem dX11_fill_21 : decode cX11_fill 21 = .ok (.iload_n 1, 1) := by decide +kernel
theorem dX11_fill_22 : decode cX11_fill 22 = .ok (.aaload, 1) := by decide +kernel
theorem dX11_fill_23 : decode cX11_fill 23 = .ok (.astore 5, 2) := by decide +kernel
theorem dX11_fill_25 : decode cX11_fill 25 = .ok (.aload 5, 2) := by decide +kernel
theorem dX11_fill_27 : decode cX11_fill 27 = .ok (.getfield 334, 3) := by decide +kernel
theorem dX11_fill_30 : decode cX11_fill 30 = .ok (.aload_n 0, 1) := by decide +kernel
theorem dX11_fill_31 : decode cX11_fill 31 = .ok (.getfield 37, 3) := by decide +kernel
theorem dX11_fill_34 : decode cX11_fill 34 = .ok (.iload_n 3, 1) := by decide +kernel
theorem dX11_fill_35 : decode cX11_fill 35 = .ok (.invokevirtual 159, 3) := by decide +kernel
theorem dX11_fill_38 : decode cX11_fill 38 = .ok (.invokestatic 346, 3) := by decide +kernel
theorem dX11_fill_41 : decode cX11_fill 41 = .ok (.istore 6, 2) := by decide +kernel
theorem dX11_fill_43 : decode cX11_fill 43 = .ok (.iconst 0, 1) := by decide +kernel
theorem dX11_fill_44 : decode cX11_fill 44 = .ok (.istore 7, 2) := by decide +kernel
theorem dX11_fill_46 : decode cX11_fill 46 = .ok (.iload 7, 2) := by decide +kernel
theorem dX11_fill_48 : decode cX11_fill 48 = .ok (.iload 6, 2) := by decide +kernel
theorem dX11_fill_50 : decode cX11_fill 50 = .ok (.if_icmp .ge 26, 3) := by decide +kernel
theorem dX11_fill_53 : decode cX11_fill 53 = .ok (.aload 5, 2) := by decide +kernel
theorem dX11_fill_55 : decode cX11_fill 55 = .ok (.iload 7, 2) := by decide +kernel
theorem dX11_fill_57 : decode cX11_fill 57 = .ok (.aload_n 0, 1) := by decide +kernel
theorem dX11_fill_58 : decode cX11_fill 58 = .ok (.getfield 37, 3) := by decide +kernel
theorem dX11_fill_61 : decode cX11_fill 61 = .ok (.iload_n 3, 1) := by decide +kernel
theorem dX11_fill_62 : decode cX11_fill 62 = .ok (.iload 7, 2) := by decide +kernel
theorem dX11_fill_64 : decode cX11_fill 64 = .ok (.invokevirtual 163, 3) := by decide +kernel
theorem dX11_fill_67 : decode cX11_fill 67 = .ok (.invokevirtual 335, 3) := by decide +kernel
theorem dX11_fill_70 : decode cX11_fill 70 = .ok (.iinc 7 1, 3) := by decide +kernel
theorem dX11_fill_73 : decode cX11_fill 73 = .ok (.goto (-27), 3) := by decide +kernel
theorem dX11_fill_76 : decode cX11_fill 76 = .ok (.iload 6, 2) := by decide +kernel
theorem dX11_fill_78 : decode cX11_fill 78 = .ok (.ireturn, 1) := by decide +kernel
theorem dX11_judge_0 : decode cX11_judge 0 = .ok (.aload_n 0, 1) := by decide +kernel
theorem dX11_judge_1 : decode cX11_judge 1 = .ok (.iload_n 1, 1) := by decide +kernel
theorem dX11_judge_2 : decode cX11_judge 2 = .ok (.iload_n 2, 1) := by decide +kernel
theorem dX11_judge_3 : decode cX11_judge 3 = .ok (.iload_n 3, 1) := by decide +kernel
theorem dX11_judge_4 : decode cX11_judge 4 = .ok (.invokevirtual 342, 3) := by decide +kernel
theorem dX11_judge_7 : decode cX11_judge 7 = .ok (.istore 4, 2) := by decide +kernel
theorem dX11_judge_9 : decode cX11_judge 9 = .ok (.iload 4, 2) := by decide +kernel
theorem dX11_judge_11 : decode cX11_judge 11 = .ok (.ifCond .eq 6, 3) := by decide +kernel
theorem dX11_judge_14 : decode cX11_judge 14 = .ok (.iload 4, 2) := by decide +kernel
theorem dX11_judge_16 : decode cX11_judge 16 = .ok (.ireturn, 1) := by decide +kernel
theorem dX11_judge_17 : decode cX11_judge 17 = .ok (.aload_n 0, 1) := by decide +kernel
theorem dX11_judge_18 : decode cX11_judge 18 = .ok (.getfield 30, 3) := by decide +kernel
theorem dX11_judge_21 : decode cX11_judge 21 = .ok (.iload_n 1, 1) := by decide +kernel
theorem dX11_judge_22 : decode cX11_judge 22 = .ok (.aaload, 1) := by decide +kernel
theorem dX11_judge_23 : decode cX11_judge 23 = .ok (.astore 5, 2) := by decide +kernel
theorem dX11_judge_25 : decode cX11_judge 25 = .ok (.iconst 0, 1) := by decide +kernel
theorem dX11_judge_26 : decode cX11_judge 26 = .ok (.istore 6, 2) := by decide +kernel
theorem dX11_judge_28 : decode cX11_judge 28 = .ok (.iload 6, 2) := by decide +kernel
theorem dX11_judge_30 : decode cX11_judge 30 = .ok (.aload 5, 2) := by decide +kernel
theorem dX11_judge_32 : decode cX11_judge 32 = .ok (.getfield 334, 3) := by decide +kernel
theorem dX11_judge_35 : decode cX11_judge 35 = .ok (.if_icmp .ge 47, 3) := by decide +kernel
theorem dX11_judge_38 : decode cX11_judge 38 = .ok (.iload 6, 2) := by decide +kernel
theorem dX11_judge_40 : decode cX11_judge 40 = .ok (.aload_n 0, 1) := by decide +kernel
theorem dX11_judge_41 : decode cX11_judge 41 = .ok (.getfield 37, 3) := by decide +kernel
theorem dX11_judge_44 : decode cX11_judge 44 = .ok (.iload_n 3, 1) := by decide +kernel
theorem dX11_judge_45 : decode cX11_judge 45 = .ok (.invokevirtual 159, 3) := by decide +kernel
theorem dX11_judge_48 : decode cX11_judge 48 = .ok (.if_icmp .ge 25, 3) := by decide +kernel
theorem dX11_judge_51 : decode cX11_judge 51 = .ok (.aload 5, 2) := by decide +kernel
theorem dX11_judge_53 : decode cX11_judge 53 = .ok (.getfield 339, 3) := by decide +kernel
theorem dX11_judge_56 : decode cX11_judge 56 = .ok (.iload 6, 2) := by decide +kernel
theorem dX11_judge_58 : decode cX11_judge 58 = .ok (.laload, 1) := by decide +kernel
theorem dX11_judge_59 : decode cX11_judge 59 = .ok (.aload_n 0, 1) := by decide +kernel
theorem dX11_judge_60 : decode cX11_judge 60 = .ok (.getfield 37, 3) := by decide +kernel
theorem dX11_judge_63 : decode cX11_judge 63 = .ok (.iload_n 3, 1) := by decide +kernel
theorem dX11_judge_64 : decode cX11_judge 64 = .ok (.iload 6, 2) := by decide +kernel
theorem dX11_judge_66 : decode cX11_judge 66 = .ok (.invokevirtual 163, 3) := by decide +kernel
theorem dX11_judge_69 : decode cX11_judge 69 = .ok (.lcmp, 1) := by decide +kernel
theorem dX11_judge_70 : decode cX11_judge 70 = .ok (.ifCond .eq 6, 3) := by decide +kernel
theorem dX11_judge_73 : decode cX11_judge 73 = .ok (.iload 6, 2) := by decide +kernel
theorem dX11_judge_75 : decode cX11_judge 75 = .ok (.ireturn, 1) := by decide +kernel
theorem dX11_judge_76 : decode cX11_judge 76 = .ok (.iinc 6 1, 3) := by decide +kernel
theorem dX11_judge_79 : decode cX11_judge 79 = .ok (.goto (-51), 3) := by decide +kernel
theorem dX11_judge_82 : decode cX11_judge 82 = .ok (.iconst (-1), 1) := by decide +kernel
theorem dX11_judge_83 : decode cX11_judge 83 = .ok (.ireturn, 1) := by decide +kernel
theorem dX11_copy_0 : decode cX11_copy 0 = .ok (.iload_n 1, 1) := by decide +kernel
theorem dX11_copy_1 : decode cX11_copy 1 = .ok (.invokestatic 325, 3) := by decide +kernel
theorem dX11_copy_4 : decode cX11_copy 4 = .ok (.ifCond .eq 10, 3) := by decide +kernel
theorem dX11_copy_7 : decode cX11_copy 7 = .ok (.iload_n 3, 1) := by decide +kernel
theorem dX11_copy_8 : decode cX11_copy 8 = .ok (.invokestatic 325, 3) := by decide +kernel
theorem dX11_copy_11 : decode cX11_copy 11 = .ok (.ifCond .ne 5, 3) := by decide +kernel
theorem dX11_copy_14 : decode cX11_copy 14 = .ok (.iconst (-1), 1) := by decide +kernel
theorem dX11_copy_15 : decode cX11_copy 15 = .ok (.ireturn, 1) := by decide +kernel
theorem dX11_copy_16 : decode cX11_copy 16 = .ok (.aload_n 0, 1) := by decide +kernel
theorem dX11_copy_17 : decode cX11_copy 17 = .ok (.getfield 30, 3) := by decide +kernel
theorem dX11_copy_20 : decode cX11_copy 20 = .ok (.iload_n 1, 1) := by decide +kernel
theorem dX11_copy_21 : decode cX11_copy 21 = .ok (.aaload, 1) := by decide +kernel
theorem dX11_copy_22 : decode cX11_copy 22 = .ok (.astore 6, 2) := by decide +kernel
theorem dX11_copy_24 : decode cX11_copy 24 = .ok (.aload_n 0, 1) := by decide +kernel
theorem dX11_copy_25 : decode cX11_copy 25 = .ok (.getfield 30, 3) := by decide +kernel
theorem dX11_copy_28 : decode cX11_copy 28 = .ok (.iload_n 3, 1) := by decide +kernel
theorem dX11_copy_29 : decode cX11_copy 29 = .ok (.aaload, 1) := by decide +kernel
theorem dX11_copy_30 : decode cX11_copy 30 = .ok (.astore 7, 2) := by decide +kernel
theorem dX11_copy_32 : decode cX11_copy 32 = .ok (.aload 6, 2) := by decide +kernel
theorem dX11_copy_34 : decode cX11_copy 34 = .ok (.invokevirtual 331, 3) := by decide +kernel
theorem dX11_copy_37 : decode cX11_copy 37 = .ok (.ifCond .ne 11, 3) := by decide +kernel
theorem dX11_copy_40 : decode cX11_copy 40 = .ok (.aload 7, 2) := by decide +kernel
theorem dX11_copy_42 : decode cX11_copy 42 = .ok (.invokevirtual 331, 3) := by decide +kernel
theorem dX11_copy_45 : decode cX11_copy 45 = .ok (.ifCond .eq 6, 3) := by decide +kernel
theorem dX11_copy_48 : decode cX11_copy 48 = .ok (.bipush (-11), 2) := by decide +kernel
theorem dX11_copy_50 : decode cX11_copy 50 = .ok (.ireturn, 1) := by decide +kernel
theorem dX11_copy_51 : decode cX11_copy 51 = .ok (.aload 6, 2) := by decide +kernel
theorem dX11_copy_53 : decode cX11_copy 53 = .ok (.getfield 351, 3) := by decide +kernel
theorem dX11_copy_56 : decode cX11_copy 56 = .ok (.aload 7, 2) := by decide +kernel
theorem dX11_copy_58 : decode cX11_copy 58 = .ok (.getfield 351, 3) := by decide +kernel
theorem dX11_copy_61 : decode cX11_copy 61 = .ok (.if_icmp .eq 6, 3) := by decide +kernel
theorem dX11_copy_64 : decode cX11_copy 64 = .ok (.bipush (-12), 2) := by decide +kernel
theorem dX11_copy_66 : decode cX11_copy 66 = .ok (.ireturn, 1) := by decide +kernel
theorem dX11_copy_67 : decode cX11_copy 67 = .ok (.aload 6, 2) := by decide +kernel
theorem dX11_copy_69 : decode cX11_copy 69 = .ok (.iload_n 2, 1) := by decide +kernel
theorem dX11_copy_70 : decode cX11_copy 70 = .ok (.iload 5, 2) := by decide +kernel
theorem dX11_copy_72 : decode cX11_copy 72 = .ok (.invokevirtual 354, 3) := by decide +kernel
theorem dX11_copy_75 : decode cX11_copy 75 = .ok (.ifCond .eq 15, 3) := by decide +kernel
theorem dX11_copy_78 : decode cX11_copy 78 = .ok (.aload 7, 2) := by decide +kernel
theorem dX11_copy_80 : decode cX11_copy 80 = .ok (.iload 4, 2) := by decide +kernel
theorem dX11_copy_82 : decode cX11_copy 82 = .ok (.iload 5, 2) := by decide +kernel
theorem dX11_copy_84 : decode cX11_copy 84 = .ok (.invokevirtual 354, 3) := by decide +kernel
theorem dX11_copy_87 : decode cX11_copy 87 = .ok (.ifCond .ne 6, 3) := by decide +kernel
theorem dX11_copy_90 : decode cX11_copy 90 = .ok (.bipush (-13), 2) := by decide +kernel
theorem dX11_copy_92 : decode cX11_copy 92 = .ok (.ireturn, 1) := by decide +kernel
theorem dX11_copy_93 : decode cX11_copy 93 = .ok (.aload 6, 2) := by decide +kernel
theorem dX11_copy_95 : decode cX11_copy 95 = .ok (.getfield 339, 3) := by decide +kernel
theorem dX11_copy_98 : decode cX11_copy 98 = .ok (.iload_n 2, 1) := by decide +kernel
theorem dX11_copy_99 : decode cX11_copy 99 = .ok (.aload 7, 2) := by decide +kernel
theorem dX11_copy_101 : decode cX11_copy 101 = .ok (.getfield 339, 3) := by decide +kernel
theorem dX11_copy_104 : decode cX11_copy 104 = .ok (.iload 4, 2) := by decide +kernel
theorem dX11_copy_106 : decode cX11_copy 106 = .ok (.iload 5, 2) := by decide +kernel
theorem dX11_copy_108 : decode cX11_copy 108 = .ok (.invokestatic 119, 3) := by decide +kernel
theorem dX11_copy_111 : decode cX11_copy 111 = .ok (.iload 5, 2) := by decide +kernel
theorem dX11_copy_113 : decode cX11_copy 113 = .ok (.ireturn, 1) := by decide +kernel
theorem dX11_count_0 : decode cX11_count 0 = .ok (.iload_n 1, 1) := by decide +kernel
theorem dX11_count_1 : decode cX11_count 1 = .ok (.tableswitch 98 0 5 #[39, 47, 55, 60, 78, 90], 39) := by decide +kernel
theorem dX11_count_40 : decode cX11_count 40 = .ok (.aload_n 0, 1) := by decide +kernel
theorem dX11_count_41 : decode cX11_count 41 = .ok (.getfield 14, 3) := by decide +kernel
theorem dX11_count_44 : decode cX11_count 44 = .ok (.getfield 234, 3) := by decide +kernel
theorem dX11_count_47 : decode cX11_count 47 = .ok (.ireturn, 1) := by decide +kernel
theorem dX11_count_48 : decode cX11_count 48 = .ok (.aload_n 0, 1) := by decide +kernel
theorem dX11_count_49 : decode cX11_count 49 = .ok (.getfield 24, 3) := by decide +kernel
theorem dX11_count_52 : decode cX11_count 52 = .ok (.getfield 106, 3) := by decide +kernel
theorem dX11_count_55 : decode cX11_count 55 = .ok (.ireturn, 1) := by decide +kernel
theorem dX11_count_56 : decode cX11_count 56 = .ok (.aload_n 0, 1) := by decide +kernel
theorem dX11_count_57 : decode cX11_count 57 = .ok (.getfield 126, 3) := by decide +kernel
theorem dX11_count_60 : decode cX11_count 60 = .ok (.ireturn, 1) := by decide +kernel
theorem dX11_count_61 : decode cX11_count 61 = .ok (.aload_n 0, 1) := by decide +kernel
theorem dX11_count_62 : decode cX11_count 62 = .ok (.iconst 0, 1) := by decide +kernel
theorem dX11_count_63 : decode cX11_count 63 = .ok (.invokevirtual 200, 3) := by decide +kernel
theorem dX11_count_66 : decode cX11_count 66 = .ok (.getfield 204, 3) := by decide +kernel
theorem dX11_count_69 : decode cX11_count 69 = .ok (.aload_n 0, 1) := by decide +kernel
theorem dX11_count_70 : decode cX11_count 70 = .ok (.iconst 1, 1) := by decide +kernel
theorem dX11_count_71 : decode cX11_count 71 = .ok (.invokevirtual 200, 3) := by decide +kernel
theorem dX11_count_74 : decode cX11_count 74 = .ok (.getfield 204, 3) := by decide +kernel
theorem dX11_count_77 : decode cX11_count 77 = .ok (.iadd, 1) := by decide +kernel
theorem dX11_count_78 : decode cX11_count 78 = .ok (.ireturn, 1) := by decide +kernel
theorem dX11_count_79 : decode cX11_count 79 = .ok (.aload_n 0, 1) := by decide +kernel
theorem dX11_count_80 : decode cX11_count 80 = .ok (.getfield 14, 3) := by decide +kernel
theorem dX11_count_83 : decode cX11_count 83 = .ok (.getfield 102, 3) := by decide +kernel
theorem dX11_count_86 : decode cX11_count 86 = .ok (.sipush 1000, 3) := by decide +kernel
theorem dX11_count_89 : decode cX11_count 89 = .ok (.iadd, 1) := by decide +kernel
theorem dX11_count_90 : decode cX11_count 90 = .ok (.ireturn, 1) := by decide +kernel
theorem dX11_count_91 : decode cX11_count 91 = .ok (.aload_n 0, 1) := by decide +kernel
theorem dX11_count_92 : decode cX11_count 92 = .ok (.getfield 14, 3) := by decide +kernel
theorem dX11_count_95 : decode cX11_count 95 = .ok (.getfield 252, 3) := by decide +kernel
theorem dX11_count_98 : decode cX11_count 98 = .ok (.ireturn, 1) := by decide +kernel
theorem dX11_count_99 : decode cX11_count 99 = .ok (.bipush (-2), 2) := by decide +kernel
theorem dX11_count_101 : decode cX11_count 101 = .ok (.ireturn, 1) := by decide +kernel
theorem dX11_image_0 : decode cX11_image 0 = .ok (.aload_n 0, 1) := by decide +kernel
theorem dX11_image_1 : decode cX11_image 1 = .ok (.getfield 18, 3) := by decide +kernel
theorem dX11_image_4 : decode cX11_image 4 = .ok (.aload_n 0, 1) := by decide +kernel
theorem dX11_image_5 : decode cX11_image 5 = .ok (.getfield 14, 3) := by decide +kernel
theorem dX11_image_8 : decode cX11_image 8 = .ok (.invokevirtual 357, 3) := by decide +kernel
theorem dX11_image_11 : decode cX11_image 11 = .ok (.aload_n 0, 1) := by decide +kernel
theorem dX11_image_12 : decode cX11_image 12 = .ok (.iconst 1, 1) := by decide +kernel
theorem dX11_image_13 : decode cX11_image 13 = .ok (.putfield 360, 3) := by decide +kernel
theorem dX11_image_16 : decode cX11_image 16 = .ok (.aload_n 0, 1) := by decide +kernel
theorem dX11_image_17 : decode cX11_image 17 = .ok (.getfield 14, 3) := by decide +kernel
theorem dX11_image_20 : decode cX11_image 20 = .ok (.getfield 234, 3) := by decide +kernel
theorem dX11_image_23 : decode cX11_image 23 = .ok (.ireturn, 1) := by decide +kernel
theorem dX11_undo_0 : decode cX11_undo 0 = .ok (.aload_n 0, 1) := by decide +kernel
theorem dX11_undo_1 : decode cX11_undo 1 = .ok (.getfield 360, 3) := by decide +kernel
theorem dX11_undo_4 : decode cX11_undo 4 = .ok (.ifCond .ne 6, 3) := by decide +kernel
theorem dX11_undo_7 : decode cX11_undo 7 = .ok (.bipush (-3), 2) := by decide +kernel
theorem dX11_undo_9 : decode cX11_undo 9 = .ok (.ireturn, 1) := by decide +kernel
theorem dX11_undo_10 : decode cX11_undo 10 = .ok (.aload_n 0, 1) := by decide +kernel
theorem dX11_undo_11 : decode cX11_undo 11 = .ok (.getfield 14, 3) := by decide +kernel
theorem dX11_undo_14 : decode cX11_undo 14 = .ok (.aload_n 0, 1) := by decide +kernel
theorem dX11_undo_15 : decode cX11_undo 15 = .ok (.getfield 18, 3) := by decide +kernel
theorem dX11_undo_18 : decode cX11_undo 18 = .ok (.invokevirtual 357, 3) := by decide +kernel
theorem dX11_undo_21 : decode cX11_undo 21 = .ok (.aload_n 0, 1) := by decide +kernel
theorem dX11_undo_22 : decode cX11_undo 22 = .ok (.invokevirtual 95, 3) := by decide +kernel
theorem dX11_undo_25 : decode cX11_undo 25 = .ok (.aload_n 0, 1) := by decide +kernel
theorem dX11_undo_26 : decode cX11_undo 26 = .ok (.getfield 14, 3) := by decide +kernel
theorem dX11_undo_29 : decode cX11_undo 29 = .ok (.getfield 234, 3) := by decide +kernel
theorem dX11_undo_32 : decode cX11_undo 32 = .ok (.ireturn, 1) := by decide +kernel
theorem dX11_isWithin_0 : decode cX11_isWithin 0 = .ok (.iload_n 0, 1) := by decide +kernel
theorem dX11_isWithin_1 : decode cX11_isWithin 1 = .ok (.iload_n 1, 1) := by decide +kernel
theorem dX11_isWithin_2 : decode cX11_isWithin 2 = .ok (.ineg, 1) := by decide +kernel
theorem dX11_isWithin_3 : decode cX11_isWithin 3 = .ok (.if_icmp .lt 12, 3) := by decide +kernel
theorem dX11_isWithin_6 : decode cX11_isWithin 6 = .ok (.iload_n 0, 1) := by decide +kernel
theorem dX11_isWithin_7 : decode cX11_isWithin 7 = .ok (.iload_n 1, 1) := by decide +kernel
theorem dX11_isWithin_8 : decode cX11_isWithin 8 = .ok (.if_icmp .gt 7, 3) := by decide +kernel
theorem dX11_isWithin_11 : decode cX11_isWithin 11 = .ok (.iconst 1, 1) := by decide +kernel
theorem dX11_isWithin_12 : decode cX11_isWithin 12 = .ok (.goto 4, 3) := by decide +kernel
theorem dX11_isWithin_15 : decode cX11_isWithin 15 = .ok (.iconst 0, 1) := by decide +kernel
theorem dX11_isWithin_16 : decode cX11_isWithin 16 = .ok (.ireturn, 1) := by decide +kernel
theorem dX11_isPower_0 : decode cX11_isPower 0 = .ok (.iload_n 0, 1) := by decide +kernel
theorem dX11_isPower_1 : decode cX11_isPower 1 = .ok (.ifCond .lt 13, 3) := by decide +kernel
theorem dX11_isPower_4 : decode cX11_isPower 4 = .ok (.iload_n 0, 1) := by decide +kernel
theorem dX11_isPower_5 : decode cX11_isPower 5 = .ok (.bipush 7, 2) := by decide +kernel
theorem dX11_isPower_7 : decode cX11_isPower 7 = .ok (.if_icmp .ge 7, 3) := by decide +kernel
theorem dX11_isPower_10 : decode cX11_isPower 10 = .ok (.iconst 1, 1) := by decide +kernel
theorem dX11_isPower_11 : decode cX11_isPower 11 = .ok (.goto 4, 3) := by decide +kernel
theorem dX11_isPower_14 : decode cX11_isPower 14 = .ok (.iconst 0, 1) := by decide +kernel
theorem dX11_isPower_15 : decode cX11_isPower 15 = .ok (.ireturn, 1) := by decide +kernel
theorem dX11_isKind_0 : decode cX11_isKind 0 = .ok (.iload_n 0, 1) := by decide +kernel
theorem dX11_isKind_1 : decode cX11_isKind 1 = .ok (.ifCond .eq 8, 3) := by decide +kernel
theorem dX11_isKind_4 : decode cX11_isKind 4 = .ok (.iload_n 0, 1) := by decide +kernel
theorem dX11_isKind_5 : decode cX11_isKind 5 = .ok (.iconst 1, 1) := by decide +kernel
theorem dX11_isKind_6 : decode cX11_isKind 6 = .ok (.if_icmp .ne 7, 3) := by decide +kernel
theorem dX11_isKind_9 : decode cX11_isKind 9 = .ok (.iconst 1, 1) := by decide +kernel
theorem dX11_isKind_10 : decode cX11_isKind 10 = .ok (.goto 4, 3) := by decide +kernel
theorem dX11_isKind_13 : decode cX11_isKind 13 = .ok (.iconst 0, 1) := by decide +kernel
theorem dX11_isKind_14 : decode cX11_isKind 14 = .ok (.ireturn, 1) := by decide +kernel
theorem dX11_isTray_0 : decode cX11_isTray 0 = .ok (.iload_n 0, 1) := by decide +kernel
theorem dX11_isTray_1 : decode cX11_isTray 1 = .ok (.ifCond .lt 12, 3) := by decide +kernel
theorem dX11_isTray_4 : decode cX11_isTray 4 = .ok (.iload_n 0, 1) := by decide +kernel
theorem dX11_isTray_5 : decode cX11_isTray 5 = .ok (.iconst 4, 1) := by decide +kernel
theorem dX11_isTray_6 : decode cX11_isTray 6 = .ok (.if_icmp .ge 7, 3) := by decide +kernel
theorem dX11_isTray_9 : decode cX11_isTray 9 = .ok (.iconst 1, 1) := by decide +kernel
theorem dX11_isTray_10 : decode cX11_isTray 10 = .ok (.goto 4, 3) := by decide +kernel
theorem dX11_isTray_13 : decode cX11_isTray 13 = .ok (.iconst 0, 1) := by decide +kernel
theorem dX11_isTray_14 : decode cX11_isTray 14 = .ok (.ireturn, 1) := by decide +kernel
theorem dX11_isForm_0 : decode cX11_isForm 0 = .ok (.iload_n 0, 1) := by decide +kernel
theorem dX11_isForm_1 : decode cX11_isForm 1 = .ok (.ifCond .lt 12, 3) := by decide +kernel
theorem dX11_isForm_4 : decode cX11_isForm 4 = .ok (.iload_n 0, 1) := by decide +kernel
theorem dX11_isForm_5 : decode cX11_isForm 5 = .ok (.iconst 3, 1) := by decide +kernel
theorem dX11_isForm_6 : decode cX11_isForm 6 = .ok (.if_icmp .gt 7, 3) := by decide +kernel
theorem dX11_isForm_9 : decode cX11_isForm 9 = .ok (.iconst 1, 1) := by decide +kernel
theorem dX11_isForm_10 : decode cX11_isForm 10 = .ok (.goto 4, 3) := by decide +kernel
theorem dX11_isForm_13 : decode cX11_isForm 13 = .ok (.iconst 0, 1) := by decide +kernel
theorem dX11_isForm_14 : decode cX11_isForm 14 = .ok (.istore_n 1, 1) := by decide +kernel
theorem dX11_isForm_15 : decode cX11_isForm 15 = .ok (.iload_n 1, 1) := by decide +kernel
theorem dX11_isForm_16 : decode cX11_isForm 16 = .ok (.ifCond .ne 15, 3) := by decide +kernel
theorem dX11_isForm_19 : decode cX11_isForm 19 = .ok (.iload_n 0, 1) := by decide +kernel
theorem dX11_isForm_20 : decode cX11_isForm 20 = .ok (.bipush 10, 2) := by decide +kernel
theorem dX11_isForm_22 : decode cX11_isForm 22 = .ok (.if_icmp .lt 13, 3) := by decide +kernel
theorem dX11_isForm_25 : decode cX11_isForm 25 = .ok (.iload_n 0, 1) := by decide +kernel
theorem dX11_isForm_26 : decode cX11_isForm 26 = .ok (.bipush 50, 2) := by decide +kernel
theorem dX11_isForm_28 : decode cX11_isForm 28 = .ok (.if_icmp .gt 7, 3) := by decide +kernel
theorem dX11_isForm_31 : decode cX11_isForm 31 = .ok (.iconst 1, 1) := by decide +kernel
theorem dX11_isForm_32 : decode cX11_isForm 32 = .ok (.goto 4, 3) := by decide +kernel
theorem dX11_isForm_35 : decode cX11_isForm 35 = .ok (.iconst 0, 1) := by decide +kernel
theorem dX11_isForm_36 : decode cX11_isForm 36 = .ok (.ireturn, 1) := by decide +kernel
theorem dX11_currentC_0 : decode cX11_currentC 0 = .ok (.aload_n 0, 1) := by decide +kernel
theorem dX11_currentC_1 : decode cX11_currentC 1 = .ok (.getfield 14, 3) := by decide +kernel
theorem dX11_currentC_4 : decode cX11_currentC 4 = .ok (.getfield 78, 3) := by decide +kernel
theorem dX11_currentC_7 : decode cX11_currentC 7 = .ok (.iconst 1, 1) := by decide +kernel
theorem dX11_currentC_8 : decode cX11_currentC 8 = .ok (.aload_n 0, 1) := by decide +kernel
theorem dX11_currentC_9 : decode cX11_currentC 9 = .ok (.getfield 14, 3) := by decide +kernel
theorem dX11_currentC_12 : decode cX11_currentC 12 = .ok (.getfield 92, 3) := by decide +kernel
theorem dX11_currentC_15 : decode cX11_currentC 15 = .ok (.aload_n 0, 1) := by decide +kernel
theorem dX11_currentC_16 : decode cX11_currentC 16 = .ok (.getfield 14, 3) := by decide +kernel
theorem dX11_currentC_19 : decode cX11_currentC 19 = .ok (.getfield 102, 3) := by decide +kernel
theorem dX11_currentC_22 : decode cX11_currentC 22 = .ok (.aload_n 0, 1) := by decide +kernel
theorem dX11_currentC_23 : decode cX11_currentC 23 = .ok (.getfield 74, 3) := by decide +kernel
theorem dX11_currentC_26 : decode cX11_currentC 26 = .ok (.invokestatic 363, 3) := by decide +kernel
theorem dX11_currentC_29 : decode cX11_currentC 29 = .ok (.aload_n 0, 1) := by decide +kernel
theorem dX11_currentC_30 : decode cX11_currentC 30 = .ok (.getfield 74, 3) := by decide +kernel
theorem dX11_currentC_33 : decode cX11_currentC 33 = .ok (.areturn, 1) := by decide +kernel
theorem dX11_tableOf_0 : decode cX11_tableOf 0 = .ok (.aload_n 0, 1) := by decide +kernel
theorem dX11_tableOf_1 : decode cX11_tableOf 1 = .ok (.getfield 37, 3) := by decide +kernel
theorem dX11_tableOf_4 : decode cX11_tableOf 4 = .ok (.aload_n 0, 1) := by decide +kernel
theorem dX11_tableOf_5 : decode cX11_tableOf 5 = .ok (.invokevirtual 98, 3) := by decide +kernel
theorem dX11_tableOf_8 : decode cX11_tableOf 8 = .ok (.iload_n 1, 1) := by decide +kernel
theorem dX11_tableOf_9 : decode cX11_tableOf 9 = .ok (.invokevirtual 135, 3) := by decide +kernel
theorem dX11_tableOf_12 : decode cX11_tableOf 12 = .ok (.aload_n 0, 1) := by decide +kernel
theorem dX11_tableOf_13 : decode cX11_tableOf 13 = .ok (.getfield 37, 3) := by decide +kernel
theorem dX11_tableOf_16 : decode cX11_tableOf 16 = .ok (.invokevirtual 367, 3) := by decide +kernel
theorem dX11_tableOf_19 : decode cX11_tableOf 19 = .ok (.aload_n 0, 1) := by decide +kernel
theorem dX11_tableOf_20 : decode cX11_tableOf 20 = .ok (.getfield 37, 3) := by decide +kernel
theorem dX11_tableOf_23 : decode cX11_tableOf 23 = .ok (.areturn, 1) := by decide +kernel
theorem dX11_spansOf_0 : decode cX11_spansOf 0 = .ok (.iload_n 1, 1) := by decide +kernel
theorem dX11_spansOf_1 : decode cX11_spansOf 1 = .ok (.ifCond .ne 10, 3) := by decide +kernel
theorem dX11_spansOf_4 : decode cX11_spansOf 4 = .ok (.aload_n 0, 1) := by decide +kernel
theorem dX11_spansOf_5 : decode cX11_spansOf 5 = .ok (.getfield 60, 3) := by decide +kernel
theorem dX11_spansOf_8 : decode cX11_spansOf 8 = .ok (.goto 7, 3) := by decide +kernel
theorem dX11_spansOf_11 : decode cX11_spansOf 11 = .ok (.aload_n 0, 1) := by decide +kernel
theorem dX11_spansOf_12 : decode cX11_spansOf 12 = .ok (.getfield 64, 3) := by decide +kernel
theorem dX11_spansOf_15 : decode cX11_spansOf 15 = .ok (.astore_n 2, 1) := by decide +kernel
theorem dX11_spansOf_16 : decode cX11_spansOf 16 = .ok (.aload_n 2, 1) := by decide +kernel
theorem dX11_spansOf_17 : decode cX11_spansOf 17 = .ok (.aload_n 0, 1) := by decide +kernel
theorem dX11_spansOf_18 : decode cX11_spansOf 18 = .ok (.getfield 14, 3) := by decide +kernel
theorem dX11_spansOf_21 : decode cX11_spansOf 21 = .ok (.aload_n 0, 1) := by decide +kernel
theorem dX11_spansOf_22 : decode cX11_spansOf 22 = .ok (.getfield 51, 3) := by decide +kernel
theorem dX11_spansOf_25 : decode cX11_spansOf 25 = .ok (.invokevirtual 369, 3) := by decide +kernel
theorem dX11_spansOf_28 : decode cX11_spansOf 28 = .ok (.aload_n 2, 1) := by decide +kernel
theorem dX11_spansOf_29 : decode cX11_spansOf 29 = .ok (.areturn, 1) := by decide +kernel
theorem dX11_forgetSurveys_0 : decode cX11_forgetSurveys 0 = .ok (.aload_n 0, 1) := by decide +kernel
theorem dX11_forgetSurveys_1 : decode cX11_forgetSurveys 1 = .ok (.getfield 60, 3) := by decide +kernel
theorem dX11_forgetSurveys_4 : decode cX11_forgetSurveys 4 = .ok (.iconst 0, 1) := by decide +kernel
theorem dX11_forgetSurveys_5 : decode cX11_forgetSurveys 5 = .ok (.putfield 372, 3) := by decide +kernel
theorem dX11_forgetSurveys_8 : decode cX11_forgetSurveys 8 = .ok (.aload_n 0, 1) := by decide +kernel
theorem dX11_forgetSurveys_9 : decode cX11_forgetSurveys 9 = .ok (.getfield 64, 3) := by decide +kernel
theorem dX11_forgetSurveys_12 : decode cX11_forgetSurveys 12 = .ok (.iconst 0, 1) := by decide +kernel
theorem dX11_forgetSurveys_13 : decode cX11_forgetSurveys 13 = .ok (.putfield 372, 3) := by decide +kernel
theorem dX11_forgetSurveys_16 : decode cX11_forgetSurveys 16 = .ok (.aload_n 0, 1) := by decide +kernel
theorem dX11_forgetSurveys_17 : decode cX11_forgetSurveys 17 = .ok (.getfield 70, 3) := by decide +kernel
theorem dX11_forgetSurveys_20 : decode cX11_forgetSurveys 20 = .ok (.iconst 0, 1) := by decide +kernel
theorem dX11_forgetSurveys_21 : decode cX11_forgetSurveys 21 = .ok (.putfield 375, 3) := by decide +kernel
theorem dX11_forgetSurveys_24 : decode cX11_forgetSurveys 24 = .ok (.return_, 1) := by decide +kernel
theorem dX11_refusalOfRow_0 : decode cX11_refusalOfRow 0 = .ok (.iload_n 1, 1) := by decide +kernel
theorem dX11_refusalOfRow_1 : decode cX11_refusalOfRow 1 = .ok (.invokestatic 325, 3) := by decide +kernel
theorem dX11_refusalOfRow_4 : decode cX11_refusalOfRow 4 = .ok (.ifCond .ne 5, 3) := by decide +kernel
theorem dX11_refusalOfRow_7 : decode cX11_refusalOfRow 7 = .ok (.iconst (-1), 1) := by decide +kernel
theorem dX11_refusalOfRow_8 : decode cX11_refusalOfRow 8 = .ok (.ireturn, 1) := by decide +kernel
theorem dX11_refusalOfRow_9 : decode cX11_refusalOfRow 9 = .ok (.iload_n 2, 1) := by decide +kernel
theorem dX11_refusalOfRow_10 : decode cX11_refusalOfRow 10 = .ok (.invokestatic 132, 3) := by decide +kernel
theorem dX11_refusalOfRow_13 : decode cX11_refusalOfRow 13 = .ok (.ifCond .ne 6, 3) := by decide +kernel
theorem dX11_refusalOfRow_16 : decode cX11_refusalOfRow 16 = .ok (.bipush (-2), 2) := by decide +kernel
theorem dX11_refusalOfRow_18 : decode cX11_refusalOfRow 18 = .ok (.ireturn, 1) := by decide +kernel
theorem dX11_refusalOfRow_19 : decode cX11_refusalOfRow 19 = .ok (.aload_n 0, 1) := by decide +kernel
theorem dX11_refusalOfRow_20 : decode cX11_refusalOfRow 20 = .ok (.getfield 30, 3) := by decide +kernel
theorem dX11_refusalOfRow_23 : decode cX11_refusalOfRow 23 = .ok (.iload_n 1, 1) := by decide +kernel
theorem dX11_refusalOfRow_24 : decode cX11_refusalOfRow 24 = .ok (.aaload, 1) := by decide +kernel
theorem dX11_refusalOfRow_25 : decode cX11_refusalOfRow 25 = .ok (.invokevirtual 331, 3) := by decide +kernel
theorem dX11_refusalOfRow_28 : decode cX11_refusalOfRow 28 = .ok (.ifCond .eq 6, 3) := by decide +kernel
theorem dX11_refusalOfRow_31 : decode cX11_refusalOfRow 31 = .ok (.bipush (-11), 2) := by decide +kernel
theorem dX11_refusalOfRow_33 : decode cX11_refusalOfRow 33 = .ok (.ireturn, 1) := by decide +kernel
theorem dX11_refusalOfRow_34 : decode cX11_refusalOfRow 34 = .ok (.aload_n 0, 1) := by decide +kernel
theorem dX11_refusalOfRow_35 : decode cX11_refusalOfRow 35 = .ok (.iload_n 2, 1) := by decide +kernel
theorem dX11_refusalOfRow_36 : decode cX11_refusalOfRow 36 = .ok (.invokevirtual 148, 3) := by decide +kernel
theorem dX11_refusalOfRow_39 : decode cX11_refusalOfRow 39 = .ok (.astore 4, 2) := by decide +kernel
theorem dX11_refusalOfRow_41 : decode cX11_refusalOfRow 41 = .ok (.aload 4, 2) := by decide +kernel
theorem dX11_refusalOfRow_43 : decode cX11_refusalOfRow 43 = .ok (.iload_n 3, 1) := by decide +kernel
theorem dX11_refusalOfRow_44 : decode cX11_refusalOfRow 44 = .ok (.invokevirtual 156, 3) := by decide +kernel
theorem dX11_refusalOfRow_47 : decode cX11_refusalOfRow 47 = .ok (.ifCond .ne 5, 3) := by decide +kernel
theorem dX11_refusalOfRow_50 : decode cX11_refusalOfRow 50 = .ok (.iconst (-1), 1) := by decide +kernel
theorem dX11_refusalOfRow_51 : decode cX11_refusalOfRow 51 = .ok (.ireturn, 1) := by decide +kernel
theorem dX11_refusalOfRow_52 : decode cX11_refusalOfRow 52 = .ok (.aload 4, 2) := by decide +kernel
theorem dX11_refusalOfRow_54 : decode cX11_refusalOfRow 54 = .ok (.getfield 152, 3) := by decide +kernel
theorem dX11_refusalOfRow_57 : decode cX11_refusalOfRow 57 = .ok (.ifCond .eq 8, 3) := by decide +kernel
theorem dX11_refusalOfRow_60 : decode cX11_refusalOfRow 60 = .ok (.bipush (-7), 2) := by decide +kernel
theorem dX11_refusalOfRow_62 : decode cX11_refusalOfRow 62 = .ok (.goto 4, 3) := by decide +kernel
theorem dX11_refusalOfRow_65 : decode cX11_refusalOfRow 65 = .ok (.iconst 0, 1) := by decide +kernel
theorem dX11_refusalOfRow_66 : decode cX11_refusalOfRow 66 = .ok (.ireturn, 1) := by decide +kernel
theorem dX12_init_0 : decode cX12_init 0 = .ok (.aload_n 0, 1) := by decide +kernel
theorem dX12_init_1 : decode cX12_init 1 = .ok (.invokespecial 3, 3) := by decide +kernel
theorem dX12_init_4 : decode cX12_init 4 = .ok (.aload_n 0, 1) := by decide +kernel
theorem dX12_init_5 : decode cX12_init 5 = .ok (.bipush 51, 2) := by decide +kernel
theorem dX12_init_7 : decode cX12_init 7 = .ok (.newarray .int, 2) := by decide +kernel
theorem dX12_init_9 : decode cX12_init 9 = .ok (.putfield 11, 3) := by decide +kernel
theorem dX12_init_12 : decode cX12_init 12 = .ok (.aload_n 0, 1) := by decide +kernel
theorem dX12_init_13 : decode cX12_init 13 = .ok (.bipush 51, 2) := by decide +kernel
theorem dX12_init_15 : decode cX12_init 15 = .ok (.newarray .int, 2) := by decide +kernel
theorem dX12_init_17 : decode cX12_init 17 = .ok (.putfield 15, 3) := by decide +kernel
theorem dX12_init_20 : decode cX12_init 20 = .ok (.aload_n 0, 1) := by decide +kernel
theorem dX12_init_21 : decode cX12_init 21 = .ok (.bipush 7, 2) := by decide +kernel
theorem dX12_init_23 : decode cX12_init 23 = .ok (.newarray .long, 2) := by decide +kernel
theorem dX12_init_25 : decode cX12_init 25 = .ok (.putfield 18, 3) := by decide +kernel
theorem dX12_init_28 : decode cX12_init 28 = .ok (.aload_n 0, 1) := by decide +kernel
theorem dX12_init_29 : decode cX12_init 29 = .ok (.bipush 7, 2) := by decide +kernel
theorem dX12_init_31 : decode cX12_init 31 = .ok (.newarray .long, 2) := by decide +kernel
theorem dX12_init_33 : decode cX12_init 33 = .ok (.putfield 22, 3) := by decide +kernel
theorem dX12_init_36 : decode cX12_init 36 = .ok (.aload_n 0, 1) := by decide +kernel
theorem dX12_init_37 : decode cX12_init 37 = .ok (.bipush 7, 2) := by decide +kernel
theorem dX12_init_39 : decode cX12_init 39 = .ok (.newarray .long, 2) := by decide +kernel
theorem dX12_init_41 : decode cX12_init 41 = .ok (.putfield 25, 3) := by decide +kernel
theorem dX12_init_44 : decode cX12_init 44 = .ok (.aload_n 0, 1) := by decide +kernel
theorem dX12_init_45 : decode cX12_init 45 = .ok (.bipush 42, 2) := by decide +kernel
theorem dX12_init_47 : decode cX12_init 47 = .ok (.newarray .long, 2) := by decide +kernel
theorem dX12_init_49 : decode cX12_init 49 = .ok (.putfield 28, 3) := by decide +kernel
theorem dX12_init_52 : decode cX12_init 52 = .ok (.aload_n 0, 1) := by decide +kernel
theorem dX12_init_53 : decode cX12_init 53 = .ok (.bipush 6, 2) := by decide +kernel
theorem dX12_init_55 : decode cX12_init 55 = .ok (.newarray .long, 2) := by decide +kernel
theorem dX12_init_57 : decode cX12_init 57 = .ok (.putfield 31, 3) := by decide +kernel
theorem dX12_init_60 : decode cX12_init 60 = .ok (.aload_n 0, 1) := by decide +kernel
theorem dX12_init_61 : decode cX12_init 61 = .ok (.bipush 7, 2) := by decide +kernel
theorem dX12_init_63 : decode cX12_init 63 = .ok (.newarray .int, 2) := by decide +kernel
theorem dX12_init_65 : decode cX12_init 65 = .ok (.putfield 34, 3) := by decide +kernel
theorem dX12_init_68 : decode cX12_init 68 = .ok (.aload_n 0, 1) := by decide +kernel
theorem dX12_init_69 : decode cX12_init 69 = .ok (.bipush 101, 2) := by decide +kernel
theorem dX12_init_71 : decode cX12_init 71 = .ok (.newarray .int, 2) := by decide +kernel
theorem dX12_init_73 : decode cX12_init 73 = .ok (.putfield 37, 3) := by decide +kernel
theorem dX12_init_76 : decode cX12_init 76 = .ok (.aload_n 0, 1) := by decide +kernel
theorem dX12_init_77 : decode cX12_init 77 = .ok (.bipush 101, 2) := by decide +kernel
theorem dX12_init_79 : decode cX12_init 79 = .ok (.newarray .int, 2) := by decide +kernel
theorem dX12_init_81 : decode cX12_init 81 = .ok (.putfield 40, 3) := by decide +kernel
theorem dX12_init_84 : decode cX12_init 84 = .ok (.aload_n 0, 1) := by decide +kernel
theorem dX12_init_85 : decode cX12_init 85 = .ok (.bipush 63, 2) := by decide +kernel
theorem dX12_init_87 : decode cX12_init 87 = .ok (.newarray .long, 2) := by decide +kernel
theorem dX12_init_89 : decode cX12_init 89 = .ok (.putfield 43, 3) := by decide +kernel
theorem dX12_init_92 : decode cX12_init 92 = .ok (.aload_n 0, 1) := by decide +kernel
theorem dX12_init_93 : decode cX12_init 93 = .ok (.bipush 7, 2) := by decide +kernel
theorem dX12_init_95 : decode cX12_init 95 = .ok (.newarray .long, 2) := by decide +kernel
theorem dX12_init_97 : decode cX12_init 97 = .ok (.putfield 46, 3) := by decide +kernel
theorem dX12_init_100 : decode cX12_init 100 = .ok (.aload_n 0, 1) := by decide +kernel
theorem dX12_init_101 : decode cX12_init 101 = .ok (.bipush 60, 2) := by decide +kernel
theorem dX12_init_103 : decode cX12_init 103 = .ok (.newarray .int, 2) := by decide +kernel
theorem dX12_init_105 : decode cX12_init 105 = .ok (.putfield 49, 3) := by decide +kernel
theorem dX12_init_108 : decode cX12_init 108 = .ok (.aload_n 0, 1) := by decide +kernel
theorem dX12_init_109 : decode cX12_init 109 = .ok (.bipush 14, 2) := by decide +kernel
theorem dX12_init_111 : decode cX12_init 111 = .ok (.newarray .int, 2) := by decide +kernel
theorem dX12_init_113 : decode cX12_init 113 = .ok (.putfield 52, 3) := by decide +kernel
theorem dX12_init_116 : decode cX12_init 116 = .ok (.aload_n 0, 1) := by decide +kernel
theorem dX12_init_117 : decode cX12_init 117 = .ok (.iconst 4, 1) := by decide +kernel
theorem dX12_init_118 : decode cX12_init 118 = .ok (.newarray .int, 2) := by decide +kernel
theorem dX12_init_120 : decode cX12_init 120 = .ok (.dup, 1) := by decide +kernel
theorem dX12_init_121 : decode cX12_init 121 = .ok (.iconst 0, 1) := by decide +kernel
theorem dX12_init_122 : decode cX12_init 122 = .ok (.iconst (-1), 1) := by decide +kernel
theorem dX12_init_123 : decode cX12_init 123 = .ok (.iastore, 1) := by decide +kernel
theorem dX12_init_124 : decode cX12_init 124 = .ok (.dup, 1) := by decide +kernel
theorem dX12_init_125 : decode cX12_init 125 = .ok (.iconst 1, 1) := by decide +kernel
theorem dX12_init_126 : decode cX12_init 126 = .ok (.iconst (-1), 1) := by decide +kernel
theorem dX12_init_127 : decode cX12_init 127 = .ok (.iastore, 1) := by decide +kernel
theorem dX12_init_128 : decode cX12_init 128 = .ok (.dup, 1) := by decide +kernel
theorem dX12_init_129 : decode cX12_init 129 = .ok (.iconst 2, 1) := by decide +kernel
theorem dX12_init_130 : decode cX12_init 130 = .ok (.iconst (-1), 1) := by decide +kernel
theorem dX12_init_131 : decode cX12_init 131 = .ok (.iastore, 1) := by decide +kernel
theorem dX12_init_132 : decode cX12_init 132 = .ok (.dup, 1) := by decide +kernel
theorem dX12_init_133 : decode cX12_init 133 = .ok (.iconst 3, 1) := by decide +kernel
theorem dX12_init_134 : decode cX12_init 134 = .ok (.iconst (-1), 1) := by decide +kernel
theorem dX12_init_135 : decode cX12_init 135 = .ok (.iastore, 1) := by decide +kernel
theorem dX12_init_136 : decode cX12_init 136 = .ok (.putfield 55, 3) := by decide +kernel
theorem dX12_init_139 : decode cX12_init 139 = .ok (.aload_n 0, 1) := by decide +kernel
theorem dX12_init_140 : decode cX12_init 140 = .ok (.iconst 4, 1) := by decide +kernel
theorem dX12_init_141 : decode cX12_init 141 = .ok (.newarray .int, 2) := by decide +kernel
theorem dX12_init_143 : decode cX12_init 143 = .ok (.putfield 58, 3) := by decide +kernel
theorem dX12_init_146 : decode cX12_init 146 = .ok (.aload_n 0, 1) := by decide +kernel
theorem dX12_init_147 : decode cX12_init 147 = .ok (.bipush 120, 2) := by decide +kernel
theorem dX12_init_149 : decode cX12_init 149 = .ok (.newarray .long, 2) := by decide +kernel
theorem dX12_init_151 : decode cX12_init 151 = .ok (.putfield 61, 3) := by decide +kernel
theorem dX12_init_154 : decode cX12_init 154 = .ok (.aload_n 0, 1) := by decide +kernel
theorem dX12_init_155 : decode cX12_init 155 = .ok (.bipush 30, 2) := by decide +kernel
theorem dX12_init_157 : decode cX12_init 157 = .ok (.newarray .long, 2) := by decide +kernel
theorem dX12_init_159 : decode cX12_init 159 = .ok (.putfield 64, 3) := by decide +kernel
theorem dX12_init_162 : decode cX12_init 162 = .ok (.aload_n 0, 1) := by decide +kernel
theorem dX12_init_163 : decode cX12_init 163 = .ok (.getfield 11, 3) := by decide +kernel
theorem dX12_init_166 : decode cX12_init 166 = .ok (.iconst 1, 1) := by decide +kernel
theorem dX12_init_167 : decode cX12_init 167 = .ok (.iconst 1, 1) := by decide +kernel
theorem dX12_init_168 : decode cX12_init 168 = .ok (.iastore, 1) := by decide +kernel
theorem dX12_init_169 : decode cX12_init 169 = .ok (.return_, 1) := by decide +kernel
theorem dX12_in_0 : decode cX12_in 0 = .ok (.lload_n 0, 1) := by decide +kernel
theorem dX12_in_1 : decode cX12_in 1 = .ok (.lload_n 2, 1) := by decide +kernel
theorem dX12_in_2 : decode cX12_in 2 = .ok (.lcmp, 1) := by decide +kernel
theorem dX12_in_3 : decode cX12_in 3 = .ok (.ifCond .lt 14, 3) := by decide +kernel
theorem dX12_in_6 : decode cX12_in 6 = .ok (.lload_n 0, 1) := by decide +kernel
theorem dX12_in_7 : decode cX12_in 7 = .ok (.lload 4, 2) := by decide +kernel
theorem dX12_in_9 : decode cX12_in 9 = .ok (.lcmp, 1) := by decide +kernel
theorem dX12_in_10 : decode cX12_in 10 = .ok (.ifCond .gt 7, 3) := by decide +kernel
theorem dX12_in_13 : decode cX12_in 13 = .ok (.iconst 1, 1) := by decide +kernel
theorem dX12_in_14 : decode cX12_in 14 = .ok (.goto 4, 3) := by decide +kernel
theorem dX12_in_17 : decode cX12_in 17 = .ok (.iconst 0, 1) := by decide +kernel
theorem dX12_in_18 : decode cX12_in 18 = .ok (.ireturn, 1) := by decide +kernel
theorem dX12_times_0 : decode cX12_times 0 = .ok (.lload_n 1, 1) := by decide +kernel
theorem dX12_times_1 : decode cX12_times 1 = .ok (.lload_n 3, 1) := by decide +kernel
theorem dX12_times_2 : decode cX12_times 2 = .ok (.lmul, 1) := by decide +kernel
theorem dX12_times_3 : decode cX12_times 3 = .ok (.lstore 5, 2) := by decide +kernel
theorem dX12_times_5 : decode cX12_times 5 = .ok (.lload_n 1, 1) := by decide +kernel
theorem dX12_times_6 : decode cX12_times 6 = .ok (.lconst 0, 1) := by decide +kernel
theorem dX12_times_7 : decode cX12_times 7 = .ok (.lcmp, 1) := by decide +kernel
theorem dX12_times_8 : decode cX12_times 8 = .ok (.ifCond .eq 25, 3) := by decide +kernel
theorem dX12_times_11 : decode cX12_times 11 = .ok (.lload 5, 2) := by decide +kernel
theorem dX12_times_13 : decode cX12_times 13 = .ok (.lload_n 1, 1) := by decide +kernel
theorem dX12_times_14 : decode cX12_times 14 = .ok (.ldiv, 1) := by decide +kernel
theorem dX12_times_15 : decode cX12_times 15 = .ok (.lload_n 3, 1) := by decide +kernel
theorem dX12_times_16 : decode cX12_times 16 = .ok (.lcmp, 1) := by decide +kernel
theorem dX12_times_17 : decode cX12_times 17 = .ok (.ifCond .ne 12, 3) := by decide +kernel
theorem dX12_times_20 : decode cX12_times 20 = .ok (.lload 5, 2) := by decide +kernel
theorem dX12_times_22 : decode cX12_times 22 = .ok (.ldc2_w 67, 3) := by decide +kernel
theorem dX12_times_25 : decode cX12_times 25 = .ok (.lcmp, 1) := by decide +kernel
theorem dX12_times_26 : decode cX12_times 26 = .ok (.ifCond .ne 7, 3) := by decide +kernel
theorem dX12_times_29 : decode cX12_times 29 = .ok (.iconst 1, 1) := by decide +kernel
theorem dX12_times_30 : decode cX12_times 30 = .ok (.goto 4, 3) := by decide +kernel
theorem dX12_times_33 : decode cX12_times 33 = .ok (.iconst 0, 1) := by decide +kernel
theorem dX12_times_34 : decode cX12_times 34 = .ok (.istore 7, 2) := by decide +kernel
theorem dX12_times_36 : decode cX12_times 36 = .ok (.aload_n 0, 1) := by decide +kernel
theorem dX12_times_37 : decode cX12_times 37 = .ok (.aload_n 0, 1) := by decide +kernel
theorem dX12_times_38 : decode cX12_times 38 = .ok (.getfield 69, 3) := by decide +kernel
theorem dX12_times_41 : decode cX12_times 41 = .ok (.ifCond .ne 8, 3) := by decide +kernel
theorem dX12_times_44 : decode cX12_times 44 = .ok (.iload 7, 2) := by decide +kernel
theorem dX12_times_46 : decode cX12_times 46 = .ok (.ifCond .eq 7, 3) := by decide +kernel
theorem dX12_times_49 : decode cX12_times 49 = .ok (.iconst 1, 1) := by decide +kernel
theorem dX12_times_50 : decode cX12_times 50 = .ok (.goto 4, 3) := by decide +kernel
theorem dX12_times_53 : decode cX12_times 53 = .ok (.iconst 0, 1) := by decide +kernel
theorem dX12_times_54 : decode cX12_times 54 = .ok (.putfield 69, 3) := by decide +kernel
theorem dX12_times_57 : decode cX12_times 57 = .ok (.lload 5, 2) := by decide +kernel
theorem dX12_times_59 : decode cX12_times 59 = .ok (.lreturn, 1) := by decide +kernel
theorem dX12_plus_0 : decode cX12_plus 0 = .ok (.lload_n 1, 1) := by decide +kernel
theorem dX12_plus_1 : decode cX12_plus 1 = .ok (.lload_n 3, 1) := by decide +kernel
theorem dX12_plus_2 : decode cX12_plus 2 = .ok (.ladd, 1) := by decide +kernel
theorem dX12_plus_3 : decode cX12_plus 3 = .ok (.lstore 5, 2) := by decide +kernel
theorem dX12_plus_5 : decode cX12_plus 5 = .ok (.aload_n 0, 1) := by decide +kernel
theorem dX12_plus_6 : decode cX12_plus 6 = .ok (.aload_n 0, 1) := by decide +kernel
theorem dX12_plus_7 : decode cX12_plus 7 = .ok (.getfield 69, 3) := by decide +kernel
theorem dX12_plus_10 : decode cX12_plus 10 = .ok (.ifCond .ne 26, 3) := by decide +kernel
theorem dX12_plus_13 : decode cX12_plus 13 = .ok (.lload_n 1, 1) := by decide +kernel
theorem dX12_plus_14 : decode cX12_plus 14 = .ok (.lload 5, 2) := by decide +kernel
theorem dX12_plus_16 : decode cX12_plus 16 = .ok (.lxor, 1) := by decide +kernel
theorem dX12_plus_17 : decode cX12_plus 17 = .ok (.lload_n 3, 1) := by decide +kernel
theorem dX12_plus_18 : decode cX12_plus 18 = .ok (.lload 5, 2) := by decide +kernel
theorem dX12_plus_20 : decode cX12_plus 20 = .ok (.lxor, 1) := by decide +kernel
theorem dX12_plus_21 : decode cX12_plus 21 = .ok (.land, 1) := by decide +kernel
theorem dX12_plus_22 : decode cX12_plus 22 = .ok (.lconst 0, 1) := by decide +kernel
theorem dX12_plus_23 : decode cX12_plus 23 = .ok (.lcmp, 1) := by decide +kernel
theorem dX12_plus_24 : decode cX12_plus 24 = .ok (.ifCond .lt 12, 3) := by decide +kernel
theorem dX12_plus_27 : decode cX12_plus 27 = .ok (.lload 5, 2) := by decide +kernel
theorem dX12_plus_29 : decode cX12_plus 29 = .ok (.ldc2_w 67, 3) := by decide +kernel
theorem dX12_plus_32 : decode cX12_plus 32 = .ok (.lcmp, 1) := by decide +kernel
theorem dX12_plus_33 : decode cX12_plus 33 = .ok (.ifCond .ne 7, 3) := by decide +kernel
theorem dX12_plus_36 : decode cX12_plus 36 = .ok (.iconst 1, 1) := by decide +kernel
theorem dX12_plus_37 : decode cX12_plus 37 = .ok (.goto 4, 3) := by decide +kernel
theorem dX12_plus_40 : decode cX12_plus 40 = .ok (.iconst 0, 1) := by decide +kernel
theorem dX12_plus_41 : decode cX12_plus 41 = .ok (.putfield 69, 3) := by decide +kernel
theorem dX12_plus_44 : decode cX12_plus 44 = .ok (.lload 5, 2) := by decide +kernel
theorem dX12_plus_46 : decode cX12_plus 46 = .ok (.lreturn, 1) := by decide +kernel
theorem dX12_turned_0 : decode cX12_turned 0 = .ok (.aload_n 0, 1) := by decide +kernel
theorem dX12_turned_1 : decode cX12_turned 1 = .ok (.aload_n 0, 1) := by decide +kernel
theorem dX12_turned_2 : decode cX12_turned 2 = .ok (.getfield 69, 3) := by decide +kernel
theorem dX12_turned_5 : decode cX12_turned 5 = .ok (.ifCond .ne 11, 3) := by decide +kernel
theorem dX12_turned_8 : decode cX12_turned 8 = .ok (.lload_n 1, 1) := by decide +kernel
theorem dX12_turned_9 : decode cX12_turned 9 = .ok (.ldc2_w 67, 3) := by decide +kernel
theorem dX12_turned_12 : decode cX12_turned 12 = .ok (.lcmp, 1) := by decide +kernel
theorem dX12_turned_13 : decode cX12_turned 13 = .ok (.ifCond .ne 7, 3) := by decide +kernel
theorem dX12_turned_16 : decode cX12_turned 16 = .ok (.iconst 1, 1) := by decide +kernel
theorem dX12_turned_17 : decode cX12_turned 17 = .ok (.goto 4, 3) := by decide +kernel
theorem dX12_turned_20 : decode cX12_turned 20 = .ok (.iconst 0, 1) := by decide +kernel
theorem dX12_turned_21 : decode cX12_turned 21 = .ok (.putfield 69, 3) := by decide +kernel
theorem dX12_turned_24 : decode cX12_turned 24 = .ok (.lload_n 1, 1) := by decide +kernel
theorem dX12_turned_25 : decode cX12_turned 25 = .ok (.lneg, 1) := by decide +kernel
theorem dX12_turned_26 : decode cX12_turned 26 = .ok (.lreturn, 1) := by decide +kernel
theorem dX12_less_0 : decode cX12_less 0 = .ok (.lload_n 1, 1) := by decide +kernel
theorem dX12_less_1 : decode cX12_less 1 = .ok (.lload_n 3, 1) := by decide +kernel
theorem dX12_less_2 : decode cX12_less 2 = .ok (.lsub, 1) := by decide +kernel
theorem dX12_less_3 : decode cX12_less 3 = .ok (.lstore 5, 2) := by decide +kernel
theorem dX12_less_5 : decode cX12_less 5 = .ok (.aload_n 0, 1) := by decide +kernel
theorem dX12_less_6 : decode cX12_less 6 = .ok (.aload_n 0, 1) := by decide +kernel
theorem dX12_less_7 : decode cX12_less 7 = .ok (.getfield 69, 3) := by decide +kernel
theorem dX12_less_10 : decode cX12_less 10 = .ok (.ifCond .ne 25, 3) := by decide +kernel
theorem dX12_less_13 : decode cX12_less 13 = .ok (.lload_n 1, 1) := by decide +kernel
theorem dX12_less_14 : decode cX12_less 14 = .ok (.lload_n 3, 1) := by decide +kernel
theorem dX12_less_15 : decode cX12_less 15 = .ok (.lxor, 1) := by decide +kernel
theorem dX12_less_16 : decode cX12_less 16 = .ok (.lload_n 1, 1) := by decide +kernel
theorem dX12_less_17 : decode cX12_less 17 = .ok (.lload 5, 2) := by decide +kernel
theorem dX12_less_19 : decode cX12_less 19 = .ok (.lxor, 1) := by decide +kernel
theorem dX12_less_20 : decode cX12_less 20 = .ok (.land, 1) := by decide +kernel
theorem dX12_less_21 : decode cX12_less 21 = .ok (.lconst 0, 1) := by decide +kernel
theorem dX12_less_22 : decode cX12_less 22 = .ok (.lcmp, 1) := by decide +kernel
theorem dX12_less_23 : decode cX12_less 23 = .ok (.ifCond .lt 12, 3) := by decide +kernel
theorem dX12_less_26 : decode cX12_less 26 = .ok (.lload 5, 2) := by decide +kernel
theorem dX12_less_28 : decode cX12_less 28 = .ok (.ldc2_w 67, 3) := by decide +kernel
theorem dX12_less_31 : decode cX12_less 31 = .ok (.lcmp, 1) := by decide +kernel
theorem dX12_less_32 : decode cX12_less 32 = .ok (.ifCond .ne 7, 3) := by decide +kernel
theorem dX12_less_35 : decode cX12_less 35 = .ok (.iconst 1, 1) := by decide +kernel
theorem dX12_less_36 : decode cX12_less 36 = .ok (.goto 4, 3) := by decide +kernel
theorem dX12_less_39 : decode cX12_less 39 = .ok (.iconst 0, 1) := by decide +kernel
theorem dX12_less_40 : decode cX12_less 40 = .ok (.putfield 69, 3) := by decide +kernel
theorem dX12_less_43 : decode cX12_less 43 = .ok (.lload 5, 2) := by decide +kernel
theorem dX12_less_45 : decode cX12_less 45 = .ok (.lreturn, 1) := by decide +kernel
theorem dX12_common_0 : decode cX12_common 0 = .ok (.lload_n 0, 1) := by decide +kernel
theorem dX12_common_1 : decode cX12_common 1 = .ok (.lstore 4, 2) := by decide +kernel
theorem dX12_common_3 : decode cX12_common 3 = .ok (.lload_n 2, 1) := by decide +kernel
theorem dX12_common_4 : decode cX12_common 4 = .ok (.lstore 6, 2) := by decide +kernel
theorem dX12_common_6 : decode cX12_common 6 = .ok (.lload 6, 2) := by decide +kernel
theorem dX12_common_8 : decode cX12_common 8 = .ok (.lconst 0, 1) := by decide +kernel
theorem dX12_common_9 : decode cX12_common 9 = .ok (.lcmp, 1) := by decide +kernel
theorem dX12_common_10 : decode cX12_common 10 = .ok (.ifCond .eq 21, 3) := by decide +kernel
theorem dX12_common_13 : decode cX12_common 13 = .ok (.lload 4, 2) := by decide +kernel
theorem dX12_common_15 : decode cX12_common 15 = .ok (.lload 6, 2) := by decide +kernel
theorem dX12_common_17 : decode cX12_common 17 = .ok (.lrem, 1) := by decide +kernel
theorem dX12_common_18 : decode cX12_common 18 = .ok (.lstore 8, 2) := by decide +kernel
theorem dX12_common_20 : decode cX12_common 20 = .ok (.lload 6, 2) := by decide +kernel
theorem dX12_common_22 : decode cX12_common 22 = .ok (.lstore 4, 2) := by decide +kernel
theorem dX12_common_24 : decode cX12_common 24 = .ok (.lload 8, 2) := by decide +kernel
theorem dX12_common_26 : decode cX12_common 26 = .ok (.lstore 6, 2) := by decide +kernel
theorem dX12_common_28 : decode cX12_common 28 = .ok (.goto (-22), 3) := by decide +kernel
theorem dX12_common_31 : decode cX12_common 31 = .ok (.lload 4, 2) := by decide +kernel
theorem dX12_common_33 : decode cX12_common 33 = .ok (.lconst 0, 1) := by decide +kernel
theorem dX12_common_34 : decode cX12_common 34 = .ok (.lcmp, 1) := by decide +kernel
theorem dX12_common_35 : decode cX12_common 35 = .ok (.ifCond .ge 9, 3) := by decide +kernel
theorem dX12_common_38 : decode cX12_common 38 = .ok (.lload 4, 2) := by decide +kernel
theorem dX12_common_40 : decode cX12_common 40 = .ok (.lneg, 1) := by decide +kernel
theorem dX12_common_41 : decode cX12_common 41 = .ok (.goto 5, 3) := by decide +kernel
theorem dX12_common_44 : decode cX12_common 44 = .ok (.lload 4, 2) := by decide +kernel
theorem dX12_common_46 : decode cX12_common 46 = .ok (.lreturn, 1) := by decide +kernel
theorem dX12_degreeOf_0 : decode cX12_degreeOf 0 = .ok (.bipush 6, 2) := by decide +kernel
theorem dX12_degreeOf_2 : decode cX12_degreeOf 2 = .ok (.istore_n 1, 1) := by decide +kernel
theorem dX12_degreeOf_3 : decode cX12_degreeOf 3 = .ok (.iload_n 1, 1) := by decide +kernel
theorem dX12_degreeOf_4 : decode cX12_degreeOf 4 = .ok (.ifCond .lt 17, 3) := by decide +kernel
theorem dX12_degreeOf_7 : decode cX12_degreeOf 7 = .ok (.aload_n 0, 1) := by decide +kernel
theorem dX12_degreeOf_8 : decode cX12_degreeOf 8 = .ok (.iload_n 1, 1) := by decide +kernel
theorem dX12_degreeOf_9 : decode cX12_degreeOf 9 = .ok (.laload, 1) := by decide +kernel
theorem dX12_degreeOf_10 : decode cX12_degreeOf 10 = .ok (.lconst 0, 1) := by decide +kernel
theorem dX12_degreeOf_11 : decode cX12_degreeOf 11 = .ok (.lcmp, 1) := by decide +kernel
theorem dX12_degreeOf_12 : decode cX12_degreeOf 12 = .ok (.ifCond .ne 9, 3) := by decide +kernel
theorem dX12_degreeOf_15 : decode cX12_degreeOf 15 = .ok (.iinc 1 (-1), 3) := by decide +kernel
theorem dX12_degreeOf_18 : decode cX12_degreeOf 18 = .ok (.goto (-15), 3) := by decide +kernel
theorem dX12_degreeOf_21 : decode cX12_degreeOf 21 = .ok (.iload_n 1, 1) := by decide +kernel
theorem dX12_degreeOf_22 : decode cX12_degreeOf 22 = .ok (.ireturn, 1) := by decide +kernel
theorem dX12_takes_0 : decode cX12_takes 0 = .ok (.iconst 0, 1) := by decide +kernel
theorem dX12_takes_1 : decode cX12_takes 1 = .ok (.istore_n 3, 1) := by decide +kernel
theorem dX12_takes_2 : decode cX12_takes 2 = .ok (.iload_n 3, 1) := by decide +kernel
theorem dX12_takes_3 : decode cX12_takes 3 = .ok (.bipush 7, 2) := by decide +kernel
theorem dX12_takes_5 : decode cX12_takes 5 = .ok (.if_icmp .ge 41, 3) := by decide +kernel
theorem dX12_takes_8 : decode cX12_takes 8 = .ok (.aload_n 0, 1) := by decide +kernel
theorem dX12_takes_9 : decode cX12_takes 9 = .ok (.getfield 18, 3) := by decide +kernel
theorem dX12_takes_12 : decode cX12_takes 12 = .ok (.iload_n 3, 1) := by decide +kernel
theorem dX12_takes_13 : decode cX12_takes 13 = .ok (.iload_n 1, 1) := by decide +kernel
theorem dX12_takes_14 : decode cX12_takes 14 = .ok (.i2l, 1) := by decide +kernel
theorem dX12_takes_15 : decode cX12_takes 15 = .ok (.aload_n 0, 1) := by decide +kernel
theorem dX12_takes_16 : decode cX12_takes 16 = .ok (.getfield 11, 3) := by decide +kernel
theorem dX12_takes_19 : decode cX12_takes 19 = .ok (.iconst 0, 1) := by decide +kernel
theorem dX12_takes_20 : decode cX12_takes 20 = .ok (.iload_n 3, 1) := by decide +kernel
theorem dX12_takes_21 : decode cX12_takes 21 = .ok (.iadd, 1) := by decide +kernel
theorem dX12_takes_22 : decode cX12_takes 22 = .ok (.iaload, 1) := by decide +kernel
theorem dX12_takes_23 : decode cX12_takes 23 = .ok (.i2l, 1) := by decide +kernel
theorem dX12_takes_24 : decode cX12_takes 24 = .ok (.lmul, 1) := by decide +kernel
theorem dX12_takes_25 : decode cX12_takes 25 = .ok (.iload_n 2, 1) := by decide +kernel
theorem dX12_takes_26 : decode cX12_takes 26 = .ok (.i2l, 1) := by decide +kernel
theorem dX12_takes_27 : decode cX12_takes 27 = .ok (.aload_n 0, 1) := by decide +kernel
theorem dX12_takes_28 : decode cX12_takes 28 = .ok (.getfield 11, 3) := by decide +kernel
theorem dX12_takes_31 : decode cX12_takes 31 = .ok (.bipush 7, 2) := by decide +kernel
theorem dX12_takes_33 : decode cX12_takes 33 = .ok (.iload_n 3, 1) := by decide +kernel
theorem dX12_takes_34 : decode cX12_takes 34 = .ok (.iadd, 1) := by decide +kernel
theorem dX12_takes_35 : decode cX12_takes 35 = .ok (.iaload, 1) := by decide +kernel
theorem dX12_takes_36 : decode cX12_takes 36 = .ok (.i2l, 1) := by decide +kernel
theorem dX12_takes_37 : decode cX12_takes 37 = .ok (.lmul, 1) := by decide +kernel
theorem dX12_takes_38 : decode cX12_takes 38 = .ok (.ladd, 1) := by decide +kernel
theorem dX12_takes_39 : decode cX12_takes 39 = .ok (.lastore, 1) := by decide +kernel
theorem dX12_takes_40 : decode cX12_takes 40 = .ok (.iinc 3 1, 3) := by decide +kernel
theorem dX12_takes_43 : decode cX12_takes 43 = .ok (.goto (-41), 3) := by decide +kernel
theorem dX12_takes_46 : decode cX12_takes 46 = .ok (.aload_n 0, 1) := by decide +kernel
theorem dX12_takes_47 : decode cX12_takes 47 = .ok (.aload_n 0, 1) := by decide +kernel
theorem dX12_takes_48 : decode cX12_takes 48 = .ok (.getfield 18, 3) := by decide +kernel
theorem dX12_takes_51 : decode cX12_takes 51 = .ok (.invokestatic 73, 3) := by decide +kernel
theorem dX12_takes_54 : decode cX12_takes 54 = .ok (.putfield 77, 3) := by decide +kernel
theorem dX12_takes_57 : decode cX12_takes 57 = .ok (.return_, 1) := by decide +kernel
theorem dX12_isPower_0 : decode cX12_isPower 0 = .ok (.iload_n 0, 1) := by decide +kernel
theorem dX12_isPower_1 : decode cX12_isPower 1 = .ok (.i2l, 1) := by decide +kernel
theorem dX12_isPower_2 : decode cX12_isPower 2 = .ok (.lconst 0, 1) := by decide +kernel
theorem dX12_isPower_3 : decode cX12_isPower 3 = .ok (.ldc2_w 81, 3) := by decide +kernel
theorem dX12_isPower_6 : decode cX12_isPower 6 = .ok (.invokestatic 83, 3) := by decide +kernel
theorem dX12_isPower_9 : decode cX12_isPower 9 = .ok (.ireturn, 1) := by decide +kernel
theorem dX12_set_0 : decode cX12_set 0 = .ok (.iload_n 1, 1) := by decide +kernel
theorem dX12_set_1 : decode cX12_set 1 = .ok (.i2l, 1) := by decide +kernel
theorem dX12_set_2 : decode cX12_set 2 = .ok (.lconst 0, 1) := by decide +kernel
theorem dX12_set_3 : decode cX12_set 3 = .ok (.lconst 1, 1) := by decide +kernel
theorem dX12_set_4 : decode cX12_set 4 = .ok (.invokestatic 83, 3) := by decide +kernel
theorem dX12_set_7 : decode cX12_set 7 = .ok (.ifCond .eq 24, 3) := by decide +kernel
theorem dX12_set_10 : decode cX12_set 10 = .ok (.iload_n 2, 1) := by decide +kernel
theorem dX12_set_11 : decode cX12_set 11 = .ok (.invokestatic 87, 3) := by decide +kernel
theorem dX12_set_14 : decode cX12_set 14 = .ok (.ifCond .eq 17, 3) := by decide +kernel
theorem dX12_set_17 : decode cX12_set 17 = .ok (.iload_n 3, 1) := by decide +kernel
theorem dX12_set_18 : decode cX12_set 18 = .ok (.i2l, 1) := by decide +kernel
theorem dX12_set_19 : decode cX12_set 19 = .ok (.ldc2_w 91, 3) := by decide +kernel
theorem dX12_set_22 : decode cX12_set 22 = .ok (.ldc2_w 93, 3) := by decide +kernel
theorem dX12_set_25 : decode cX12_set 25 = .ok (.invokestatic 83, 3) := by decide +kernel
theorem dX12_set_28 : decode cX12_set 28 = .ok (.ifCond .ne 7, 3) := by decide +kernel
theorem dX12_set_31 : decode cX12_set 31 = .ok (.ldc2_w 67, 3) := by decide +kernel
theorem dX12_set_34 : decode cX12_set 34 = .ok (.lreturn, 1) := by decide +kernel
theorem dX12_set_35 : decode cX12_set 35 = .ok (.aload_n 0, 1) := by decide +kernel
theorem dX12_set_36 : decode cX12_set 36 = .ok (.getfield 11, 3) := by decide +kernel
theorem dX12_set_39 : decode cX12_set 39 = .ok (.bipush 7, 2) := by decide +kernel
theorem dX12_set_41 : decode cX12_set 41 = .ok (.iload_n 1, 1) := by decide +kernel
theorem dX12_set_42 : decode cX12_set 42 = .ok (.imul, 1) := by decide +kernel
theorem dX12_set_43 : decode cX12_set 43 = .ok (.iload_n 2, 1) := by decide +kernel
theorem dX12_set_44 : decode cX12_set 44 = .ok (.iadd, 1) := by decide +kernel
theorem dX12_set_45 : decode cX12_set 45 = .ok (.iaload, 1) := by decide +kernel
theorem dX12_set_46 : decode cX12_set 46 = .ok (.istore 4, 2) := by decide +kernel
theorem dX12_set_48 : decode cX12_set 48 = .ok (.aload_n 0, 1) := by decide +kernel
theorem dX12_set_49 : decode cX12_set 49 = .ok (.getfield 11, 3) := by decide +kernel
theorem dX12_set_52 : decode cX12_set 52 = .ok (.bipush 7, 2) := by decide +kernel
theorem dX12_set_54 : decode cX12_set 54 = .ok (.iload_n 1, 1) := by decide +kernel
theorem dX12_set_55 : decode cX12_set 55 = .ok (.imul, 1) := by decide +kernel
theorem dX12_set_56 : decode cX12_set 56 = .ok (.iload_n 2, 1) := by decide +kernel
theorem dX12_set_57 : decode cX12_set 57 = .ok (.iadd, 1) := by decide +kernel
theorem dX12_set_58 : decode cX12_set 58 = .ok (.iload_n 3, 1) := by decide +kernel
theorem dX12_set_59 : decode cX12_set 59 = .ok (.iastore, 1) := by decide +kernel
theorem dX12_set_60 : decode cX12_set 60 = .ok (.iload 4, 2) := by decide +kernel
theorem dX12_set_62 : decode cX12_set 62 = .ok (.i2l, 1) := by decide +kernel
theorem dX12_set_63 : decode cX12_set 63 = .ok (.lreturn, 1) := by decide +kernel
theorem dX12_of_0 : decode cX12_of 0 = .ok (.iload_n 1, 1) := by decide +kernel
theorem dX12_of_1 : decode cX12_of 1 = .ok (.i2l, 1) := by decide +kernel
theorem dX12_of_2 : decode cX12_of 2 = .ok (.lconst 0, 1) := by decide +kernel
theorem dX12_of_3 : decode cX12_of 3 = .ok (.ldc2_w 95, 3) := by decide +kernel
theorem dX12_of_6 : decode cX12_of 6 = .ok (.invokestatic 83, 3) := by decide +kernel
theorem dX12_of_9 : decode cX12_of 9 = .ok (.ifCond .eq 10, 3) := by decide +kernel
theorem dX12_of_12 : decode cX12_of 12 = .ok (.iload_n 2, 1) := by decide +kernel
theorem dX12_of_13 : decode cX12_of 13 = .ok (.invokestatic 87, 3) := by decide +kernel
theorem dX12_of_16 : decode cX12_of 16 = .ok (.ifCond .ne 7, 3) := by decide +kernel
theorem dX12_of_19 : decode cX12_of 19 = .ok (.ldc2_w 67, 3) := by decide +kernel
theorem dX12_of_22 : decode cX12_of 22 = .ok (.lreturn, 1) := by decide +kernel
theorem dX12_of_23 : decode cX12_of 23 = .ok (.aload_n 0, 1) := by decide +kernel
theorem dX12_of_24 : decode cX12_of 24 = .ok (.iconst 1, 1) := by decide +kernel
theorem dX12_of_25 : decode cX12_of 25 = .ok (.aload_n 0, 1) := by decide +kernel
theorem dX12_of_26 : decode cX12_of 26 = .ok (.getfield 11, 3) := by decide +kernel
theorem dX12_of_29 : decode cX12_of 29 = .ok (.bipush 14, 2) := by decide +kernel
theorem dX12_of_31 : decode cX12_of 31 = .ok (.iaload, 1) := by decide +kernel
theorem dX12_of_32 : decode cX12_of 32 = .ok (.invokevirtual 97, 3) := by decide +kernel
theorem dX12_of_35 : decode cX12_of 35 = .ok (.iload_n 1, 1) := by decide +kernel
theorem dX12_of_36 : decode cX12_of 36 = .ok (.iconst 2, 1) := by decide +kernel
theorem dX12_of_37 : decode cX12_of 37 = .ok (.if_icmp .ne 12, 3) := by decide +kernel
theorem dX12_of_40 : decode cX12_of 40 = .ok (.aload_n 0, 1) := by decide +kernel
theorem dX12_of_41 : decode cX12_of 41 = .ok (.getfield 18, 3) := by decide +kernel
theorem dX12_of_44 : decode cX12_of 44 = .ok (.iload_n 2, 1) := by decide +kernel
theorem dX12_of_45 : decode cX12_of 45 = .ok (.laload, 1) := by decide +kernel
theorem dX12_of_46 : decode cX12_of 46 = .ok (.goto 15, 3) := by decide +kernel
theorem dX12_of_49 : decode cX12_of 49 = .ok (.aload_n 0, 1) := by decide +kernel
theorem dX12_of_50 : decode cX12_of 50 = .ok (.getfield 11, 3) := by decide +kernel
theorem dX12_of_53 : decode cX12_of 53 = .ok (.bipush 7, 2) := by decide +kernel
theorem dX12_of_55 : decode cX12_of 55 = .ok (.iload_n 1, 1) := by decide +kernel
theorem dX12_of_56 : decode cX12_of 56 = .ok (.imul, 1) := by decide +kernel
theorem dX12_of_57 : decode cX12_of 57 = .ok (.iload_n 2, 1) := by decide +kernel
theorem dX12_of_58 : decode cX12_of 58 = .ok (.iadd, 1) := by decide +kernel
theorem dX12_of_59 : decode cX12_of 59 = .ok (.iaload, 1) := by decide +kernel
theorem dX12_of_60 : decode cX12_of 60 = .ok (.i2l, 1) := by decide +kernel
theorem dX12_of_61 : decode cX12_of 61 = .ok (.lreturn, 1) := by decide +kernel
theorem dX12_gain_0 : decode cX12_gain 0 = .ok (.iload_n 1, 1) := by decide +kernel
theorem dX12_gain_1 : decode cX12_gain 1 = .ok (.i2l, 1) := by decide +kernel
theorem dX12_gain_2 : decode cX12_gain 2 = .ok (.ldc2_w 101, 3) := by decide +kernel
theorem dX12_gain_5 : decode cX12_gain 5 = .ok (.ldc2_w 103, 3) := by decide +kernel
theorem dX12_gain_8 : decode cX12_gain 8 = .ok (.invokestatic 83, 3) := by decide +kernel
theorem dX12_gain_11 : decode cX12_gain 11 = .ok (.ifCond .ne 6, 3) := by decide +kernel
theorem dX12_gain_14 : decode cX12_gain 14 = .ok (.bipush (-2), 2) := by decide +kernel
theorem dX12_gain_16 : decode cX12_gain 16 = .ok (.ireturn, 1) := by decide +kernel
theorem dX12_gain_17 : decode cX12_gain 17 = .ok (.aload_n 0, 1) := by decide +kernel
theorem dX12_gain_18 : decode cX12_gain 18 = .ok (.getfield 11, 3) := by decide +kernel
theorem dX12_gain_21 : decode cX12_gain 21 = .ok (.bipush 14, 2) := by decide +kernel
theorem dX12_gain_23 : decode cX12_gain 23 = .ok (.iload_n 1, 1) := by decide +kernel
theorem dX12_gain_24 : decode cX12_gain 24 = .ok (.iastore, 1) := by decide +kernel
theorem dX12_gain_25 : decode cX12_gain 25 = .ok (.iconst 1, 1) := by decide +kernel
theorem dX12_gain_26 : decode cX12_gain 26 = .ok (.ireturn, 1) := by decide +kernel
theorem dX12_isForm_0 : decode cX12_isForm 0 = .ok (.iload_n 0, 1) := by decide +kernel
theorem dX12_isForm_1 : decode cX12_isForm 1 = .ok (.i2l, 1) := by decide +kernel
theorem dX12_isForm_2 : decode cX12_isForm 2 = .ok (.lconst 0, 1) := by decide +kernel
theorem dX12_isForm_3 : decode cX12_isForm 3 = .ok (.ldc2_w 105, 3) := by decide +kernel
theorem dX12_isForm_6 : decode cX12_isForm 6 = .ok (.invokestatic 83, 3) := by decide +kernel
theorem dX12_isForm_9 : decode cX12_isForm 9 = .ok (.ifCond .ne 17, 3) := by decide +kernel
theorem dX12_isForm_12 : decode cX12_isForm 12 = .ok (.iload_n 0, 1) := by decide +kernel
theorem dX12_isForm_13 : decode cX12_isForm 13 = .ok (.i2l, 1) := by decide +kernel
theorem dX12_isForm_14 : decode cX12_isForm 14 = .ok (.ldc2_w 107, 3) := by decide +kernel
theorem dX12_isForm_17 : decode cX12_isForm 17 = .ok (.ldc2_w 109, 3) := by decide +kernel
theorem dX12_isForm_20 : decode cX12_isForm 20 = .ok (.invokestatic 83, 3) := by decide +kernel
theorem dX12_isForm_23 : decode cX12_isForm 23 = .ok (.ifCond .eq 7, 3) := by decide +kernel
theorem dX12_isForm_26 : decode cX12_isForm 26 = .ok (.iconst 1, 1) := by decide +kernel
theorem dX12_isForm_27 : decode cX12_isForm 27 = .ok (.goto 4, 3) := by decide +kernel
theorem dX12_isForm_30 : decode cX12_isForm 30 = .ok (.iconst 0, 1) := by decide +kernel
theorem dX12_isForm_31 : decode cX12_isForm 31 = .ok (.ireturn, 1) := by decide +kernel
theorem dX12_wider_0 : decode cX12_wider 0 = .ok (.bipush 6, 2) := by decide +kernel
theorem dX12_wider_2 : decode cX12_wider 2 = .ok (.istore_n 2, 1) := by decide +kernel
theorem dX12_wider_3 : decode cX12_wider 3 = .ok (.iload_n 2, 1) := by decide +kernel
theorem dX12_wider_4 : decode cX12_wider 4 = .ok (.ifCond .lt 41, 3) := by decide +kernel
theorem dX12_wider_7 : decode cX12_wider 7 = .ok (.aload_n 0, 1) := by decide +kernel
theorem dX12_wider_8 : decode cX12_wider 8 = .ok (.getfield 25, 3) := by decide +kernel
theorem dX12_wider_11 : decode cX12_wider 11 = .ok (.iload_n 2, 1) := by decide +kernel
theorem dX12_wider_12 : decode cX12_wider 12 = .ok (.iload_n 2, 1) := by decide +kernel
theorem dX12_wider_13 : decode cX12_wider 13 = .ok (.ifCond .le 14, 3) := by decide +kernel
theorem dX12_wider_16 : decode cX12_wider 16 = .ok (.aload_n 0, 1) := by decide +kernel
theorem dX12_wider_17 : decode cX12_wider 17 = .ok (.getfield 25, 3) := by decide +kernel
theorem dX12_wider_20 : decode cX12_wider 20 = .ok (.iload_n 2, 1) := by decide +kernel
theorem dX12_wider_21 : decode cX12_wider 21 = .ok (.iconst 1, 1) := by decide +kernel
theorem dX12_wider_22 : decode cX12_wider 22 = .ok (.isub, 1) := by decide +kernel
theorem dX12_wider_23 : decode cX12_wider 23 = .ok (.laload, 1) := by decide +kernel
theorem dX12_wider_24 : decode cX12_wider 24 = .ok (.goto 4, 3) := by decide +kernel
theorem dX12_wider_27 : decode cX12_wider 27 = .ok (.lconst 0, 1) := by decide +kernel
theorem dX12_wider_28 : decode cX12_wider 28 = .ok (.iload_n 1, 1) := by decide +kernel
theorem dX12_wider_29 : decode cX12_wider 29 = .ok (.i2l, 1) := by decide +kernel
theorem dX12_wider_30 : decode cX12_wider 30 = .ok (.aload_n 0, 1) := by decide +kernel
theorem dX12_wider_31 : decode cX12_wider 31 = .ok (.getfield 25, 3) := by decide +kernel
theorem dX12_wider_34 : decode cX12_wider 34 = .ok (.iload_n 2, 1) := by decide +kernel
theorem dX12_wider_35 : decode cX12_wider 35 = .ok (.laload, 1) := by decide +kernel
theorem dX12_wider_36 : decode cX12_wider 36 = .ok (.lmul, 1) := by decide +kernel
theorem dX12_wider_37 : decode cX12_wider 37 = .ok (.ladd, 1) := by decide +kernel
theorem dX12_wider_38 : decode cX12_wider 38 = .ok (.lastore, 1) := by decide +kernel
theorem dX12_wider_39 : decode cX12_wider 39 = .ok (.iinc 2 (-1), 3) := by decide +kernel
theorem dX12_wider_42 : decode cX12_wider 42 = .ok (.goto (-39), 3) := by decide +kernel
theorem dX12_wider_45 : decode cX12_wider 45 = .ok (.return_, 1) := by decide +kernel
theorem dX12_circles_0 : decode cX12_circles 0 = .ok (.iconst 0, 1) := by decide +kernel
theorem dX12_circles_1 : decode cX12_circles 1 = .ok (.istore_n 1, 1) := by decide +kernel
theorem dX12_circles_2 : decode cX12_circles 2 = .ok (.iload_n 1, 1) := by decide +kernel
theorem dX12_circles_3 : decode cX12_circles 3 = .ok (.bipush 7, 2) := by decide +kernel
theorem dX12_circles_5 : decode cX12_circles 5 = .ok (.if_icmp .ge 16, 3) := by decide +kernel
theorem dX12_circles_8 : decode cX12_circles 8 = .ok (.aload_n 0, 1) := by decide +kernel
theorem dX12_circles_9 : decode cX12_circles 9 = .ok (.getfield 22, 3) := by decide +kernel
theorem dX12_circles_12 : decode cX12_circles 12 = .ok (.iload_n 1, 1) := by decide +kernel
theorem dX12_circles_13 : decode cX12_circles 13 = .ok (.lconst 0, 1) := by decide +kernel
theorem dX12_circles_14 : decode cX12_circles 14 = .ok (.lastore, 1) := by decide +kernel
theorem dX12_circles_15 : decode cX12_circles 15 = .ok (.iinc 1 1, 3) := by decide +kernel
theorem dX12_circles_18 : decode cX12_circles 18 = .ok (.goto (-16), 3) := by decide +kernel
theorem dX12_circles_21 : decode cX12_circles 21 = .ok (.iconst 0, 1) := by decide +kernel
theorem dX12_circles_22 : decode cX12_circles 22 = .ok (.istore_n 1, 1) := by decide +kernel
theorem dX12_circles_23 : decode cX12_circles 23 = .ok (.iload_n 1, 1) := by decide +kernel
theorem dX12_circles_24 : decode cX12_circles 24 = .ok (.aload_n 0, 1) := by decide +kernel
theorem dX12_circles_25 : decode cX12_circles 25 = .ok (.getfield 77, 3) := by decide +kernel
theorem dX12_circles_28 : decode cX12_circles 28 = .ok (.if_icmp .gt 102, 3) := by decide +kernel
theorem dX12_circles_31 : decode cX12_circles 31 = .ok (.iconst 0, 1) := by decide +kernel
theorem dX12_circles_32 : decode cX12_circles 32 = .ok (.istore_n 2, 1) := by decide +kernel
theorem dX12_circles_33 : decode cX12_circles 33 = .ok (.iload_n 2, 1) := by decide +kernel
theorem dX12_circles_34 : decode cX12_circles 34 = .ok (.bipush 7, 2) := by decide +kernel
theorem dX12_circles_36 : decode cX12_circles 36 = .ok (.if_icmp .ge 29, 3) := by decide +kernel
theorem dX12_circles_39 : decode cX12_circles 39 = .ok (.aload_n 0, 1) := by decide +kernel
theorem dX12_circles_40 : decode cX12_circles 40 = .ok (.getfield 25, 3) := by decide +kernel
theorem dX12_circles_43 : decode cX12_circles 43 = .ok (.iload_n 2, 1) := by decide +kernel
theorem dX12_circles_44 : decode cX12_circles 44 = .ok (.iload_n 2, 1) := by decide +kernel
theorem dX12_circles_45 : decode cX12_circles 45 = .ok (.ifCond .ne 12, 3) := by decide +kernel
theorem dX12_circles_48 : decode cX12_circles 48 = .ok (.aload_n 0, 1) := by decide +kernel
theorem dX12_circles_49 : decode cX12_circles 49 = .ok (.getfield 18, 3) := by decide +kernel
theorem dX12_circles_52 : decode cX12_circles 52 = .ok (.iload_n 1, 1) := by decide +kernel
theorem dX12_circles_53 : decode cX12_circles 53 = .ok (.laload, 1) := by decide +kernel
theorem dX12_circles_54 : decode cX12_circles 54 = .ok (.goto 4, 3) := by decide +kernel
theorem dX12_circles_57 : decode cX12_circles 57 = .ok (.lconst 0, 1) := by decide +kernel
theorem dX12_circles_58 : decode cX12_circles 58 = .ok (.lastore, 1) := by decide +kernel
theorem dX12_circles_59 : decode cX12_circles 59 = .ok (.iinc 2 1, 3) := by decide +kernel
theorem dX12_circles_62 : decode cX12_circles 62 = .ok (.goto (-29), 3) := by decide +kernel
theorem dX12_circles_65 : decode cX12_circles 65 = .ok (.iconst 0, 1) := by decide +kernel
theorem dX12_circles_66 : decode cX12_circles 66 = .ok (.istore_n 2, 1) := by decide +kernel
theorem dX12_circles_67 : decode cX12_circles 67 = .ok (.iload_n 2, 1) := by decide +kernel
theorem dX12_circles_68 : decode cX12_circles 68 = .ok (.aload_n 0, 1) := by decide +kernel
theorem dX12_circles_69 : decode cX12_circles 69 = .ok (.getfield 77, 3) := by decide +kernel
theorem dX12_circles_72 : decode cX12_circles 72 = .ok (.if_icmp .ge 23, 3) := by decide +kernel
theorem dX12_circles_75 : decode cX12_circles 75 = .ok (.aload_n 0, 1) := by decide +kernel
theorem dX12_circles_76 : decode cX12_circles 76 = .ok (.iload_n 2, 1) := by decide +kernel
theorem dX12_circles_77 : decode cX12_circles 77 = .ok (.iload_n 1, 1) := by decide +kernel
theorem dX12_circles_78 : decode cX12_circles 78 = .ok (.if_icmp .ge 7, 3) := by decide +kernel
theorem dX12_circles_81 : decode cX12_circles 81 = .ok (.iconst 1, 1) := by decide +kernel
theorem dX12_circles_82 : decode cX12_circles 82 = .ok (.goto 4, 3) := by decide +kernel
theorem dX12_circles_85 : decode cX12_circles 85 = .ok (.iconst (-1), 1) := by decide +kernel
theorem dX12_circles_86 : decode cX12_circles 86 = .ok (.invokevirtual 111, 3) := by decide +kernel
theorem dX12_circles_89 : decode cX12_circles 89 = .ok (.iinc 2 1, 3) := by decide +kernel
theorem dX12_circles_92 : decode cX12_circles 92 = .ok (.goto (-25), 3) := by decide +kernel
theorem dX12_circles_95 : decode cX12_circles 95 = .ok (.iconst 0, 1) := by decide +kernel
theorem dX12_circles_96 : decode cX12_circles 96 = .ok (.istore_n 2, 1) := by decide +kernel
theorem dX12_circles_97 : decode cX12_circles 97 = .ok (.iload_n 2, 1) := by decide +kernel
theorem dX12_circles_98 : decode cX12_circles 98 = .ok (.bipush 7, 2) := by decide +kernel
theorem dX12_circles_100 : decode cX12_circles 100 = .ok (.if_icmp .ge 24, 3) := by decide +kernel
theorem dX12_circles_103 : decode cX12_circles 103 = .ok (.aload_n 0, 1) := by decide +kernel
theorem dX12_circles_104 : decode cX12_circles 104 = .ok (.getfield 22, 3) := by decide +kernel
theorem dX12_circles_107 : decode cX12_circles 107 = .ok (.iload_n 2, 1) := by decide +kernel
theorem dX12_circles_108 : decode cX12_circles 108 = .ok (.dup2, 1) := by decide +kernel
theorem dX12_circles_109 : decode cX12_circles 109 = .ok (.laload, 1) := by decide +kernel
theorem dX12_circles_110 : decode cX12_circles 110 = .ok (.aload_n 0, 1) := by decide +kernel
theorem dX12_circles_111 : decode cX12_circles 111 = .ok (.getfield 25, 3) := by decide +kernel
theorem dX12_circles_114 : decode cX12_circles 114 = .ok (.iload_n 2, 1) := by decide +kernel
theorem dX12_circles_115 : decode cX12_circles 115 = .ok (.laload, 1) := by decide +kernel
theorem dX12_circles_116 : decode cX12_circles 116 = .ok (.ladd, 1) := by decide +kernel
theorem dX12_circles_117 : decode cX12_circles 117 = .ok (.lastore, 1) := by decide +kernel
theorem dX12_circles_118 : decode cX12_circles 118 = .ok (.iinc 2 1, 3) := by decide +kernel
theorem dX12_circles_121 : decode cX12_circles 121 = .ok (.goto (-24), 3) := by decide +kernel
theorem dX12_circles_124 : decode cX12_circles 124 = .ok (.iinc 1 1, 3) := by decide +kernel
theorem dX12_circles_127 : decode cX12_circles 127 = .ok (.goto (-104), 3) := by decide +kernel
theorem dX12_circles_130 : decode cX12_circles 130 = .ok (.return_, 1) := by decide +kernel
theorem dX12_shifts_0 : decode cX12_shifts 0 = .ok (.iconst 0, 1) := by decide +kernel
theorem dX12_shifts_1 : decode cX12_shifts 1 = .ok (.istore_n 2, 1) := by decide +kernel
theorem dX12_shifts_2 : decode cX12_shifts 2 = .ok (.iload_n 2, 1) := by decide +kernel
theorem dX12_shifts_3 : decode cX12_shifts 3 = .ok (.bipush 7, 2) := by decide +kernel
theorem dX12_shifts_5 : decode cX12_shifts 5 = .ok (.if_icmp .ge 16, 3) := by decide +kernel
theorem dX12_shifts_8 : decode cX12_shifts 8 = .ok (.aload_n 0, 1) := by decide +kernel
theorem dX12_shifts_9 : decode cX12_shifts 9 = .ok (.getfield 25, 3) := by decide +kernel
theorem dX12_shifts_12 : decode cX12_shifts 12 = .ok (.iload_n 2, 1) := by decide +kernel
theorem dX12_shifts_13 : decode cX12_shifts 13 = .ok (.lconst 0, 1) := by decide +kernel
theorem dX12_shifts_14 : decode cX12_shifts 14 = .ok (.lastore, 1) := by decide +kernel
theorem dX12_shifts_15 : decode cX12_shifts 15 = .ok (.iinc 2 1, 3) := by decide +kernel
theorem dX12_shifts_18 : decode cX12_shifts 18 = .ok (.goto (-16), 3) := by decide +kernel
theorem dX12_shifts_21 : decode cX12_shifts 21 = .ok (.aload_n 0, 1) := by decide +kernel
theorem dX12_shifts_22 : decode cX12_shifts 22 = .ok (.getfield 77, 3) := by decide +kernel
theorem dX12_shifts_25 : decode cX12_shifts 25 = .ok (.istore_n 2, 1) := by decide +kernel
theorem dX12_shifts_26 : decode cX12_shifts 26 = .ok (.iload_n 2, 1) := by decide +kernel
theorem dX12_shifts_27 : decode cX12_shifts 27 = .ok (.ifCond .lt 29, 3) := by decide +kernel
theorem dX12_shifts_30 : decode cX12_shifts 30 = .ok (.aload_n 0, 1) := by decide +kernel
theorem dX12_shifts_31 : decode cX12_shifts 31 = .ok (.iload_n 1, 1) := by decide +kernel
theorem dX12_shifts_32 : decode cX12_shifts 32 = .ok (.invokevirtual 111, 3) := by decide +kernel
theorem dX12_shifts_35 : decode cX12_shifts 35 = .ok (.aload_n 0, 1) := by decide +kernel
theorem dX12_shifts_36 : decode cX12_shifts 36 = .ok (.getfield 25, 3) := by decide +kernel
theorem dX12_shifts_39 : decode cX12_shifts 39 = .ok (.iconst 0, 1) := by decide +kernel
theorem dX12_shifts_40 : decode cX12_shifts 40 = .ok (.dup2, 1) := by decide +kernel
theorem dX12_shifts_41 : decode cX12_shifts 41 = .ok (.laload, 1) := by decide +kernel
theorem dX12_shifts_42 : decode cX12_shifts 42 = .ok (.aload_n 0, 1) := by decide +kernel
theorem dX12_shifts_43 : decode cX12_shifts 43 = .ok (.getfield 18, 3) := by decide +kernel
theorem dX12_shifts_46 : decode cX12_shifts 46 = .ok (.iload_n 2, 1) := by decide +kernel
theorem dX12_shifts_47 : decode cX12_shifts 47 = .ok (.laload, 1) := by decide +kernel
theorem dX12_shifts_48 : decode cX12_shifts 48 = .ok (.ladd, 1) := by decide +kernel
theorem dX12_shifts_49 : decode cX12_shifts 49 = .ok (.lastore, 1) := by decide +kernel
theorem dX12_shifts_50 : decode cX12_shifts 50 = .ok (.iinc 2 (-1), 3) := by decide +kernel
theorem dX12_shifts_53 : decode cX12_shifts 53 = .ok (.goto (-27), 3) := by decide +kernel
theorem dX12_shifts_56 : decode cX12_shifts 56 = .ok (.iconst 0, 1) := by decide +kernel
theorem dX12_shifts_57 : decode cX12_shifts 57 = .ok (.istore_n 2, 1) := by decide +kernel
theorem dX12_shifts_58 : decode cX12_shifts 58 = .ok (.iload_n 2, 1) := by decide +kernel
theorem dX12_shifts_59 : decode cX12_shifts 59 = .ok (.bipush 7, 2) := by decide +kernel
theorem dX12_shifts_61 : decode cX12_shifts 61 = .ok (.if_icmp .ge 21, 3) := by decide +kernel
theorem dX12_shifts_64 : decode cX12_shifts 64 = .ok (.aload_n 0, 1) := by decide +kernel
theorem dX12_shifts_65 : decode cX12_shifts 65 = .ok (.getfield 22, 3) := by decide +kernel
theorem dX12_shifts_68 : decode cX12_shifts 68 = .ok (.iload_n 2, 1) := by decide +kernel
theorem dX12_shifts_69 : decode cX12_shifts 69 = .ok (.aload_n 0, 1) := by decide +kernel
theorem dX12_shifts_70 : decode cX12_shifts 70 = .ok (.getfield 25, 3) := by decide +kernel
theorem dX12_shifts_73 : decode cX12_shifts 73 = .ok (.iload_n 2, 1) := by decide +kernel
theorem dX12_shifts_74 : decode cX12_shifts 74 = .ok (.laload, 1) := by decide +kernel
theorem dX12_shifts_75 : decode cX12_shifts 75 = .ok (.lastore, 1) := by decide +kernel
theorem dX12_shifts_76 : decode cX12_shifts 76 = .ok (.iinc 2 1, 3) := by decide +kernel
theorem dX12_shifts_79 : decode cX12_shifts 79 = .ok (.goto (-21), 3) := by decide +kernel
theorem dX12_shifts_82 : decode cX12_shifts 82 = .ok (.return_, 1) := by decide +kernel
theorem dX12_forms_0 : decode cX12_forms 0 = .ok (.iload_n 1, 1) := by decide +kernel
theorem dX12_forms_1 : decode cX12_forms 1 = .ok (.iconst 3, 1) := by decide +kernel
theorem dX12_forms_2 : decode cX12_forms 2 = .ok (.if_icmp .ne 10, 3) := by decide +kernel
theorem dX12_forms_5 : decode cX12_forms 5 = .ok (.aload_n 0, 1) := by decide +kernel
theorem dX12_forms_6 : decode cX12_forms 6 = .ok (.invokevirtual 115, 3) := by decide +kernel
theorem dX12_forms_9 : decode cX12_forms 9 = .ok (.goto 99, 3) := by decide +kernel
theorem dX12_forms_12 : decode cX12_forms 12 = .ok (.iload_n 1, 1) := by decide +kernel
theorem dX12_forms_13 : decode cX12_forms 13 = .ok (.bipush 10, 2) := by decide +kernel
theorem dX12_forms_15 : decode cX12_forms 15 = .ok (.if_icmp .lt 14, 3) := by decide +kernel
theorem dX12_forms_18 : decode cX12_forms 18 = .ok (.aload_n 0, 1) := by decide +kernel
theorem dX12_forms_19 : decode cX12_forms 19 = .ok (.iload_n 1, 1) := by decide +kernel
theorem dX12_forms_20 : decode cX12_forms 20 = .ok (.bipush 30, 2) := by decide +kernel
theorem dX12_forms_22 : decode cX12_forms 22 = .ok (.isub, 1) := by decide +kernel
theorem dX12_forms_23 : decode cX12_forms 23 = .ok (.invokevirtual 118, 3) := by decide +kernel
theorem dX12_forms_26 : decode cX12_forms 26 = .ok (.goto 82, 3) := by decide +kernel
theorem dX12_forms_29 : decode cX12_forms 29 = .ok (.iconst 0, 1) := by decide +kernel
theorem dX12_forms_30 : decode cX12_forms 30 = .ok (.istore_n 2, 1) := by decide +kernel
theorem dX12_forms_31 : decode cX12_forms 31 = .ok (.iload_n 2, 1) := by decide +kernel
theorem dX12_forms_32 : decode cX12_forms 32 = .ok (.bipush 7, 2) := by decide +kernel
theorem dX12_forms_34 : decode cX12_forms 34 = .ok (.if_icmp .ge 74, 3) := by decide +kernel
theorem dX12_forms_37 : decode cX12_forms 37 = .ok (.aload_n 0, 1) := by decide +kernel
theorem dX12_forms_38 : decode cX12_forms 38 = .ok (.getfield 22, 3) := by decide +kernel
theorem dX12_forms_41 : decode cX12_forms 41 = .ok (.iload_n 2, 1) := by decide +kernel
theorem dX12_forms_42 : decode cX12_forms 42 = .ok (.iload_n 1, 1) := by decide +kernel
theorem dX12_forms_43 : decode cX12_forms 43 = .ok (.iconst 2, 1) := by decide +kernel
theorem dX12_forms_44 : decode cX12_forms 44 = .ok (.if_icmp .ne 29, 3) := by decide +kernel
theorem dX12_forms_47 : decode cX12_forms 47 = .ok (.iload_n 2, 1) := by decide +kernel
theorem dX12_forms_48 : decode cX12_forms 48 = .ok (.aload_n 0, 1) := by decide +kernel
theorem dX12_forms_49 : decode cX12_forms 49 = .ok (.getfield 77, 3) := by decide +kernel
theorem dX12_forms_52 : decode cX12_forms 52 = .ok (.if_icmp .gt 17, 3) := by decide +kernel
theorem dX12_forms_55 : decode cX12_forms 55 = .ok (.aload_n 0, 1) := by decide +kernel
theorem dX12_forms_56 : decode cX12_forms 56 = .ok (.getfield 18, 3) := by decide +kernel
theorem dX12_forms_59 : decode cX12_forms 59 = .ok (.aload_n 0, 1) := by decide +kernel
theorem dX12_forms_60 : decode cX12_forms 60 = .ok (.getfield 77, 3) := by decide +kernel
theorem dX12_forms_63 : decode cX12_forms 63 = .ok (.iload_n 2, 1) := by decide +kernel
theorem dX12_forms_64 : decode cX12_forms 64 = .ok (.isub, 1) := by decide +kernel
theorem dX12_forms_65 : decode cX12_forms 65 = .ok (.laload, 1) := by decide +kernel
theorem dX12_forms_66 : decode cX12_forms 66 = .ok (.goto 35, 3) := by decide +kernel
theorem dX12_forms_69 : decode cX12_forms 69 = .ok (.lconst 0, 1) := by decide +kernel
theorem dX12_forms_70 : decode cX12_forms 70 = .ok (.goto 31, 3) := by decide +kernel
theorem dX12_forms_73 : decode cX12_forms 73 = .ok (.iload_n 1, 1) := by decide +kernel
theorem dX12_forms_74 : decode cX12_forms 74 = .ok (.iconst 1, 1) := by decide +kernel
theorem dX12_forms_75 : decode cX12_forms 75 = .ok (.if_icmp .ne 20, 3) := by decide +kernel
theorem dX12_forms_78 : decode cX12_forms 78 = .ok (.iload_n 2, 1) := by decide +kernel
theorem dX12_forms_79 : decode cX12_forms 79 = .ok (.iconst 2, 1) := by decide +kernel
theorem dX12_forms_80 : decode cX12_forms 80 = .ok (.irem, 1) := by decide +kernel
theorem dX12_forms_81 : decode cX12_forms 81 = .ok (.iconst 1, 1) := by decide +kernel
theorem dX12_forms_82 : decode cX12_forms 82 = .ok (.if_icmp .ne 13, 3) := by decide +kernel
theorem dX12_forms_85 : decode cX12_forms 85 = .ok (.aload_n 0, 1) := by decide +kernel
theorem dX12_forms_86 : decode cX12_forms 86 = .ok (.getfield 18, 3) := by decide +kernel
theorem dX12_forms_89 : decode cX12_forms 89 = .ok (.iload_n 2, 1) := by decide +kernel
theorem dX12_forms_90 : decode cX12_forms 90 = .ok (.laload, 1) := by decide +kernel
theorem dX12_forms_91 : decode cX12_forms 91 = .ok (.lneg, 1) := by decide +kernel
theorem dX12_forms_92 : decode cX12_forms 92 = .ok (.goto 9, 3) := by decide +kernel
theorem dX12_forms_95 : decode cX12_forms 95 = .ok (.aload_n 0, 1) := by decide +kernel
theorem dX12_forms_96 : decode cX12_forms 96 = .ok (.getfield 18, 3) := by decide +kernel
theorem dX12_forms_99 : decode cX12_forms 99 = .ok (.iload_n 2, 1) := by decide +kernel
theorem dX12_forms_100 : decode cX12_forms 100 = .ok (.laload, 1) := by decide +kernel
theorem dX12_forms_101 : decode cX12_forms 101 = .ok (.lastore, 1) := by decide +kernel
theorem dX12_forms_102 : decode cX12_forms 102 = .ok (.iinc 2 1, 3) := by decide +kernel
theorem dX12_forms_105 : decode cX12_forms 105 = .ok (.goto (-74), 3) := by decide +kernel
theorem dX12_forms_108 : decode cX12_forms 108 = .ok (.aload_n 0, 1) := by decide +kernel
theorem dX12_forms_109 : decode cX12_forms 109 = .ok (.aload_n 0, 1) := by decide +kernel
theorem dX12_forms_110 : decode cX12_forms 110 = .ok (.getfield 22, 3) := by decide +kernel
theorem dX12_forms_113 : decode cX12_forms 113 = .ok (.invokestatic 73, 3) := by decide +kernel
theorem dX12_forms_116 : decode cX12_forms 116 = .ok (.putfield 121, 3) := by decide +kernel
theorem dX12_forms_119 : decode cX12_forms 119 = .ok (.aload_n 0, 1) := by decide +kernel
theorem dX12_forms_120 : decode cX12_forms 120 = .ok (.aload_n 0, 1) := by decide +kernel
theorem dX12_forms_121 : decode cX12_forms 121 = .ok (.getfield 77, 3) := by decide +kernel
theorem dX12_forms_124 : decode cX12_forms 124 = .ok (.ifCond .ge 7, 3) := by decide +kernel
theorem dX12_forms_127 : decode cX12_forms 127 = .ok (.iconst 0, 1) := by decide +kernel
theorem dX12_forms_128 : decode cX12_forms 128 = .ok (.goto 12, 3) := by decide +kernel
theorem dX12_forms_131 : decode cX12_forms 131 = .ok (.aload_n 0, 1) := by decide +kernel
theorem dX12_forms_132 : decode cX12_forms 132 = .ok (.getfield 77, 3) := by decide +kernel
theorem dX12_forms_135 : decode cX12_forms 135 = .ok (.aload_n 0, 1) := by decide +kernel
theorem dX12_forms_136 : decode cX12_forms 136 = .ok (.getfield 121, 3) := by decide +kernel
theorem dX12_forms_139 : decode cX12_forms 139 = .ok (.isub, 1) := by decide +kernel
theorem dX12_forms_140 : decode cX12_forms 140 = .ok (.putfield 124, 3) := by decide +kernel
theorem dX12_forms_143 : decode cX12_forms 143 = .ok (.return_, 1) := by decide +kernel
theorem dX12_laysForm_0 : decode cX12_laysForm 0 = .ok (.aload_n 0, 1) := by decide +kernel
theorem dX12_laysForm_1 : decode cX12_laysForm 1 = .ok (.iconst 1, 1) := by decide +kernel
theorem dX12_laysForm_2 : decode cX12_laysForm 2 = .ok (.aload_n 0, 1) := by decide +kernel
theorem dX12_laysForm_3 : decode cX12_laysForm 3 = .ok (.getfield 11, 3) := by decide +kernel
theorem dX12_laysForm_6 : decode cX12_laysForm 6 = .ok (.bipush 14, 2) := by decide +kernel
theorem dX12_laysForm_8 : decode cX12_laysForm 8 = .ok (.iaload, 1) := by decide +kernel
theorem dX12_laysForm_9 : decode cX12_laysForm 9 = .ok (.invokevirtual 97, 3) := by decide +kernel
theorem dX12_laysForm_12 : decode cX12_laysForm 12 = .ok (.aload_n 0, 1) := by decide +kernel
theorem dX12_laysForm_13 : decode cX12_laysForm 13 = .ok (.iload_n 1, 1) := by decide +kernel
theorem dX12_laysForm_14 : decode cX12_laysForm 14 = .ok (.invokevirtual 127, 3) := by decide +kernel
theorem dX12_laysForm_17 : decode cX12_laysForm 17 = .ok (.return_, 1) := by decide +kernel
theorem dX12_form_0 : decode cX12_form 0 = .ok (.iload_n 1, 1) := by decide +kernel
theorem dX12_form_1 : decode cX12_form 1 = .ok (.invokestatic 130, 3) := by decide +kernel
theorem dX12_form_4 : decode cX12_form 4 = .ok (.ifCond .eq 10, 3) := by decide +kernel
theorem dX12_form_7 : decode cX12_form 7 = .ok (.iload_n 2, 1) := by decide +kernel
theorem dX12_form_8 : decode cX12_form 8 = .ok (.invokestatic 87, 3) := by decide +kernel
theorem dX12_form_11 : decode cX12_form 11 = .ok (.ifCond .ne 7, 3) := by decide +kernel
theorem dX12_form_14 : decode cX12_form 14 = .ok (.ldc2_w 67, 3) := by decide +kernel
theorem dX12_form_17 : decode cX12_form 17 = .ok (.lreturn, 1) := by decide +kernel
theorem dX12_form_18 : decode cX12_form 18 = .ok (.aload_n 0, 1) := by decide +kernel
theorem dX12_form_19 : decode cX12_form 19 = .ok (.iload_n 1, 1) := by decide +kernel
theorem dX12_form_20 : decode cX12_form 20 = .ok (.invokevirtual 133, 3) := by decide +kernel
theorem dX12_form_23 : decode cX12_form 23 = .ok (.aload_n 0, 1) := by decide +kernel
theorem dX12_form_24 : decode cX12_form 24 = .ok (.getfield 22, 3) := by decide +kernel
theorem dX12_form_27 : decode cX12_form 27 = .ok (.iload_n 2, 1) := by decide +kernel
theorem dX12_form_28 : decode cX12_form 28 = .ok (.laload, 1) := by decide +kernel
theorem dX12_form_29 : decode cX12_form 29 = .ok (.lreturn, 1) := by decide +kernel
theorem dX12_degree_0 : decode cX12_degree 0 = .ok (.iload_n 1, 1) := by decide +kernel
theorem dX12_degree_1 : decode cX12_degree 1 = .ok (.invokestatic 130, 3) := by decide +kernel
theorem dX12_degree_4 : decode cX12_degree 4 = .ok (.ifCond .eq 13, 3) := by decide +kernel
theorem dX12_degree_7 : decode cX12_degree 7 = .ok (.iload_n 2, 1) := by decide +kernel
theorem dX12_degree_8 : decode cX12_degree 8 = .ok (.i2l, 1) := by decide +kernel
theorem dX12_degree_9 : decode cX12_degree 9 = .ok (.lconst 0, 1) := by decide +kernel
theorem dX12_degree_10 : decode cX12_degree 10 = .ok (.lconst 1, 1) := by decide +kernel
theorem dX12_degree_11 : decode cX12_degree 11 = .ok (.invokestatic 83, 3) := by decide +kernel
