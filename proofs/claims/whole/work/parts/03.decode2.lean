theorem dX9_takeTerm_122 : decode cX9_takeTerm 122 = .ok (.putfield 29, 3) := by decide +kernel
theorem dX9_takeTerm_125 : decode cX9_takeTerm 125 = .ok (.return_, 1) := by decide +kernel
theorem dX9_takeNumber_0 : decode cX9_takeNumber 0 = .ok (.iconst 0, 1) := by decide +kernel
theorem dX9_takeNumber_1 : decode cX9_takeNumber 1 = .ok (.istore_n 1, 1) := by decide +kernel
theorem dX9_takeNumber_2 : decode cX9_takeNumber 2 = .ok (.iconst 0, 1) := by decide +kernel
theorem dX9_takeNumber_3 : decode cX9_takeNumber 3 = .ok (.istore_n 2, 1) := by decide +kernel
theorem dX9_takeNumber_4 : decode cX9_takeNumber 4 = .ok (.iload_n 2, 1) := by decide +kernel
theorem dX9_takeNumber_5 : decode cX9_takeNumber 5 = .ok (.iconst 2, 1) := by decide +kernel
theorem dX9_takeNumber_6 : decode cX9_takeNumber 6 = .ok (.if_icmp .ge 52, 3) := by decide +kernel
theorem dX9_takeNumber_9 : decode cX9_takeNumber 9 = .ok (.aload_n 0, 1) := by decide +kernel
theorem dX9_takeNumber_10 : decode cX9_takeNumber 10 = .ok (.aload_n 0, 1) := by decide +kernel
theorem dX9_takeNumber_11 : decode cX9_takeNumber 11 = .ok (.getfield 32, 3) := by decide +kernel
theorem dX9_takeNumber_14 : decode cX9_takeNumber 14 = .ok (.invokevirtual 50, 3) := by decide +kernel
theorem dX9_takeNumber_17 : decode cX9_takeNumber 17 = .ok (.istore_n 3, 1) := by decide +kernel
theorem dX9_takeNumber_18 : decode cX9_takeNumber 18 = .ok (.iload_n 3, 1) := by decide +kernel
theorem dX9_takeNumber_19 : decode cX9_takeNumber 19 = .ok (.bipush 48, 2) := by decide +kernel
theorem dX9_takeNumber_21 : decode cX9_takeNumber 21 = .ok (.if_icmp .lt 9, 3) := by decide +kernel
theorem dX9_takeNumber_24 : decode cX9_takeNumber 24 = .ok (.iload_n 3, 1) := by decide +kernel
theorem dX9_takeNumber_25 : decode cX9_takeNumber 25 = .ok (.bipush 57, 2) := by decide +kernel
theorem dX9_takeNumber_27 : decode cX9_takeNumber 27 = .ok (.if_icmp .le 5, 3) := by decide +kernel
theorem dX9_takeNumber_30 : decode cX9_takeNumber 30 = .ok (.iload_n 1, 1) := by decide +kernel
theorem dX9_takeNumber_31 : decode cX9_takeNumber 31 = .ok (.ireturn, 1) := by decide +kernel
theorem dX9_takeNumber_32 : decode cX9_takeNumber 32 = .ok (.bipush 10, 2) := by decide +kernel
theorem dX9_takeNumber_34 : decode cX9_takeNumber 34 = .ok (.iload_n 1, 1) := by decide +kernel
theorem dX9_takeNumber_35 : decode cX9_takeNumber 35 = .ok (.imul, 1) := by decide +kernel
theorem dX9_takeNumber_36 : decode cX9_takeNumber 36 = .ok (.iload_n 3, 1) := by decide +kernel
theorem dX9_takeNumber_37 : decode cX9_takeNumber 37 = .ok (.iadd, 1) := by decide +kernel
theorem dX9_takeNumber_38 : decode cX9_takeNumber 38 = .ok (.bipush 48, 2) := by decide +kernel
theorem dX9_takeNumber_40 : decode cX9_takeNumber 40 = .ok (.isub, 1) := by decide +kernel
theorem dX9_takeNumber_41 : decode cX9_takeNumber 41 = .ok (.istore_n 1, 1) := by decide +kernel
theorem dX9_takeNumber_42 : decode cX9_takeNumber 42 = .ok (.aload_n 0, 1) := by decide +kernel
theorem dX9_takeNumber_43 : decode cX9_takeNumber 43 = .ok (.dup, 1) := by decide +kernel
theorem dX9_takeNumber_44 : decode cX9_takeNumber 44 = .ok (.getfield 32, 3) := by decide +kernel
theorem dX9_takeNumber_47 : decode cX9_takeNumber 47 = .ok (.iconst 1, 1) := by decide +kernel
theorem dX9_takeNumber_48 : decode cX9_takeNumber 48 = .ok (.iadd, 1) := by decide +kernel
theorem dX9_takeNumber_49 : decode cX9_takeNumber 49 = .ok (.putfield 32, 3) := by decide +kernel
theorem dX9_takeNumber_52 : decode cX9_takeNumber 52 = .ok (.iinc 2 1, 3) := by decide +kernel
theorem dX9_takeNumber_55 : decode cX9_takeNumber 55 = .ok (.goto (-51), 3) := by decide +kernel
theorem dX9_takeNumber_58 : decode cX9_takeNumber 58 = .ok (.iload_n 1, 1) := by decide +kernel
theorem dX9_takeNumber_59 : decode cX9_takeNumber 59 = .ok (.ireturn, 1) := by decide +kernel
theorem dX9_takePower_0 : decode cX9_takePower 0 = .ok (.aload_n 0, 1) := by decide +kernel
theorem dX9_takePower_1 : decode cX9_takePower 1 = .ok (.aload_n 0, 1) := by decide +kernel
theorem dX9_takePower_2 : decode cX9_takePower 2 = .ok (.getfield 32, 3) := by decide +kernel
theorem dX9_takePower_5 : decode cX9_takePower 5 = .ok (.invokevirtual 50, 3) := by decide +kernel
theorem dX9_takePower_8 : decode cX9_takePower 8 = .ok (.istore_n 1, 1) := by decide +kernel
theorem dX9_takePower_9 : decode cX9_takePower 9 = .ok (.iload_n 1, 1) := by decide +kernel
theorem dX9_takePower_10 : decode cX9_takePower 10 = .ok (.bipush 49, 2) := by decide +kernel
theorem dX9_takePower_12 : decode cX9_takePower 12 = .ok (.if_icmp .lt 9, 3) := by decide +kernel
theorem dX9_takePower_15 : decode cX9_takePower 15 = .ok (.iload_n 1, 1) := by decide +kernel
theorem dX9_takePower_16 : decode cX9_takePower 16 = .ok (.bipush 54, 2) := by decide +kernel
theorem dX9_takePower_18 : decode cX9_takePower 18 = .ok (.if_icmp .le 5, 3) := by decide +kernel
theorem dX9_takePower_21 : decode cX9_takePower 21 = .ok (.iconst 1, 1) := by decide +kernel
theorem dX9_takePower_22 : decode cX9_takePower 22 = .ok (.ireturn, 1) := by decide +kernel
theorem dX9_takePower_23 : decode cX9_takePower 23 = .ok (.aload_n 0, 1) := by decide +kernel
theorem dX9_takePower_24 : decode cX9_takePower 24 = .ok (.dup, 1) := by decide +kernel
theorem dX9_takePower_25 : decode cX9_takePower 25 = .ok (.getfield 32, 3) := by decide +kernel
theorem dX9_takePower_28 : decode cX9_takePower 28 = .ok (.iconst 1, 1) := by decide +kernel
theorem dX9_takePower_29 : decode cX9_takePower 29 = .ok (.iadd, 1) := by decide +kernel
theorem dX9_takePower_30 : decode cX9_takePower 30 = .ok (.putfield 32, 3) := by decide +kernel
theorem dX9_takePower_33 : decode cX9_takePower 33 = .ok (.iload_n 1, 1) := by decide +kernel
theorem dX9_takePower_34 : decode cX9_takePower 34 = .ok (.bipush 48, 2) := by decide +kernel
theorem dX9_takePower_36 : decode cX9_takePower 36 = .ok (.isub, 1) := by decide +kernel
theorem dX9_takePower_37 : decode cX9_takePower 37 = .ok (.ireturn, 1) := by decide +kernel
theorem dX9_expect_0 : decode cX9_expect 0 = .ok (.aload_n 0, 1) := by decide +kernel
theorem dX9_expect_1 : decode cX9_expect 1 = .ok (.aload_n 0, 1) := by decide +kernel
theorem dX9_expect_2 : decode cX9_expect 2 = .ok (.getfield 32, 3) := by decide +kernel
theorem dX9_expect_5 : decode cX9_expect 5 = .ok (.invokevirtual 50, 3) := by decide +kernel
theorem dX9_expect_8 : decode cX9_expect 8 = .ok (.iload_n 1, 1) := by decide +kernel
theorem dX9_expect_9 : decode cX9_expect 9 = .ok (.if_icmp .ne 16, 3) := by decide +kernel
theorem dX9_expect_12 : decode cX9_expect 12 = .ok (.aload_n 0, 1) := by decide +kernel
theorem dX9_expect_13 : decode cX9_expect 13 = .ok (.dup, 1) := by decide +kernel
theorem dX9_expect_14 : decode cX9_expect 14 = .ok (.getfield 32, 3) := by decide +kernel
theorem dX9_expect_17 : decode cX9_expect 17 = .ok (.iconst 1, 1) := by decide +kernel
theorem dX9_expect_18 : decode cX9_expect 18 = .ok (.iadd, 1) := by decide +kernel
theorem dX9_expect_19 : decode cX9_expect 19 = .ok (.putfield 32, 3) := by decide +kernel
theorem dX9_expect_22 : decode cX9_expect 22 = .ok (.goto 11, 3) := by decide +kernel
theorem dX9_expect_25 : decode cX9_expect 25 = .ok (.aload_n 0, 1) := by decide +kernel
theorem dX9_expect_26 : decode cX9_expect 26 = .ok (.aload_n 0, 1) := by decide +kernel
theorem dX9_expect_27 : decode cX9_expect 27 = .ok (.getfield 32, 3) := by decide +kernel
theorem dX9_expect_30 : decode cX9_expect 30 = .ok (.putfield 29, 3) := by decide +kernel
theorem dX9_expect_33 : decode cX9_expect 33 = .ok (.return_, 1) := by decide +kernel
theorem dX9_signAt_0 : decode cX9_signAt 0 = .ok (.aload_n 0, 1) := by decide +kernel
theorem dX9_signAt_1 : decode cX9_signAt 1 = .ok (.iload_n 1, 1) := by decide +kernel
theorem dX9_signAt_2 : decode cX9_signAt 2 = .ok (.invokevirtual 50, 3) := by decide +kernel
theorem dX9_signAt_5 : decode cX9_signAt 5 = .ok (.istore_n 2, 1) := by decide +kernel
theorem dX9_signAt_6 : decode cX9_signAt 6 = .ok (.iload_n 2, 1) := by decide +kernel
theorem dX9_signAt_7 : decode cX9_signAt 7 = .ok (.bipush 43, 2) := by decide +kernel
theorem dX9_signAt_9 : decode cX9_signAt 9 = .ok (.if_icmp .ne 5, 3) := by decide +kernel
theorem dX9_signAt_12 : decode cX9_signAt 12 = .ok (.iconst 1, 1) := by decide +kernel
theorem dX9_signAt_13 : decode cX9_signAt 13 = .ok (.ireturn, 1) := by decide +kernel
theorem dX9_signAt_14 : decode cX9_signAt 14 = .ok (.iload_n 2, 1) := by decide +kernel
theorem dX9_signAt_15 : decode cX9_signAt 15 = .ok (.bipush 45, 2) := by decide +kernel
theorem dX9_signAt_17 : decode cX9_signAt 17 = .ok (.if_icmp .ne 7, 3) := by decide +kernel
theorem dX9_signAt_20 : decode cX9_signAt 20 = .ok (.iconst (-1), 1) := by decide +kernel
theorem dX9_signAt_21 : decode cX9_signAt 21 = .ok (.goto 4, 3) := by decide +kernel
theorem dX9_signAt_24 : decode cX9_signAt 24 = .ok (.iconst 0, 1) := by decide +kernel
theorem dX9_signAt_25 : decode cX9_signAt 25 = .ok (.ireturn, 1) := by decide +kernel
theorem dX9_letterAt_0 : decode cX9_letterAt 0 = .ok (.iload_n 1, 1) := by decide +kernel
theorem dX9_letterAt_1 : decode cX9_letterAt 1 = .ok (.ifCond .lt 17, 3) := by decide +kernel
theorem dX9_letterAt_4 : decode cX9_letterAt 4 = .ok (.iload_n 1, 1) := by decide +kernel
theorem dX9_letterAt_5 : decode cX9_letterAt 5 = .ok (.aload_n 0, 1) := by decide +kernel
theorem dX9_letterAt_6 : decode cX9_letterAt 6 = .ok (.getfield 22, 3) := by decide +kernel
theorem dX9_letterAt_9 : decode cX9_letterAt 9 = .ok (.if_icmp .ge 9, 3) := by decide +kernel
theorem dX9_letterAt_12 : decode cX9_letterAt 12 = .ok (.iload_n 1, 1) := by decide +kernel
theorem dX9_letterAt_13 : decode cX9_letterAt 13 = .ok (.bipush 60, 2) := by decide +kernel
theorem dX9_letterAt_15 : decode cX9_letterAt 15 = .ok (.if_icmp .lt 7, 3) := by decide +kernel
theorem dX9_letterAt_18 : decode cX9_letterAt 18 = .ok (.iconst (-1), 1) := by decide +kernel
theorem dX9_letterAt_19 : decode cX9_letterAt 19 = .ok (.goto 9, 3) := by decide +kernel
theorem dX9_letterAt_22 : decode cX9_letterAt 22 = .ok (.aload_n 0, 1) := by decide +kernel
theorem dX9_letterAt_23 : decode cX9_letterAt 23 = .ok (.getfield 9, 3) := by decide +kernel
theorem dX9_letterAt_26 : decode cX9_letterAt 26 = .ok (.iload_n 1, 1) := by decide +kernel
theorem dX9_letterAt_27 : decode cX9_letterAt 27 = .ok (.iaload, 1) := by decide +kernel
theorem dX9_letterAt_28 : decode cX9_letterAt 28 = .ok (.ireturn, 1) := by decide +kernel
theorem dX10_init_0 : decode cX10_init 0 = .ok (.aload_n 0, 1) := by decide +kernel
theorem dX10_init_1 : decode cX10_init 1 = .ok (.invokespecial 3, 3) := by decide +kernel
theorem dX10_init_4 : decode cX10_init 4 = .ok (.aload_n 0, 1) := by decide +kernel
theorem dX10_init_5 : decode cX10_init 5 = .ok (.bipush 30, 2) := by decide +kernel
theorem dX10_init_7 : decode cX10_init 7 = .ok (.newarray .long, 2) := by decide +kernel
theorem dX10_init_9 : decode cX10_init 9 = .ok (.putfield 9, 3) := by decide +kernel
theorem dX10_init_12 : decode cX10_init 12 = .ok (.aload_n 0, 1) := by decide +kernel
theorem dX10_init_13 : decode cX10_init 13 = .ok (.iconst (-1), 1) := by decide +kernel
theorem dX10_init_14 : decode cX10_init 14 = .ok (.putfield 15, 3) := by decide +kernel
theorem dX10_init_17 : decode cX10_init 17 = .ok (.return_, 1) := by decide +kernel
theorem dX10_become_0 : decode cX10_become 0 = .ok (.aload_n 0, 1) := by decide +kernel
theorem dX10_become_1 : decode cX10_become 1 = .ok (.iload_n 1, 1) := by decide +kernel
theorem dX10_become_2 : decode cX10_become 2 = .ok (.putfield 15, 3) := by decide +kernel
theorem dX10_become_5 : decode cX10_become 5 = .ok (.aload_n 0, 1) := by decide +kernel
theorem dX10_become_6 : decode cX10_become 6 = .ok (.iload_n 2, 1) := by decide +kernel
theorem dX10_become_7 : decode cX10_become 7 = .ok (.putfield 19, 3) := by decide +kernel
theorem dX10_become_10 : decode cX10_become 10 = .ok (.iconst 0, 1) := by decide +kernel
theorem dX10_become_11 : decode cX10_become 11 = .ok (.istore_n 3, 1) := by decide +kernel
theorem dX10_become_12 : decode cX10_become 12 = .ok (.iload_n 3, 1) := by decide +kernel
theorem dX10_become_13 : decode cX10_become 13 = .ok (.bipush 30, 2) := by decide +kernel
theorem dX10_become_15 : decode cX10_become 15 = .ok (.if_icmp .ge 16, 3) := by decide +kernel
theorem dX10_become_18 : decode cX10_become 18 = .ok (.aload_n 0, 1) := by decide +kernel
theorem dX10_become_19 : decode cX10_become 19 = .ok (.getfield 9, 3) := by decide +kernel
theorem dX10_become_22 : decode cX10_become 22 = .ok (.iload_n 3, 1) := by decide +kernel
theorem dX10_become_23 : decode cX10_become 23 = .ok (.lconst 0, 1) := by decide +kernel
theorem dX10_become_24 : decode cX10_become 24 = .ok (.lastore, 1) := by decide +kernel
theorem dX10_become_25 : decode cX10_become 25 = .ok (.iinc 3 1, 3) := by decide +kernel
theorem dX10_become_28 : decode cX10_become 28 = .ok (.goto (-16), 3) := by decide +kernel
theorem dX10_become_31 : decode cX10_become 31 = .ok (.return_, 1) := by decide +kernel
theorem dX10_isNothing_0 : decode cX10_isNothing 0 = .ok (.aload_n 0, 1) := by decide +kernel
theorem dX10_isNothing_1 : decode cX10_isNothing 1 = .ok (.getfield 15, 3) := by decide +kernel
theorem dX10_isNothing_4 : decode cX10_isNothing 4 = .ok (.iconst (-1), 1) := by decide +kernel
theorem dX10_isNothing_5 : decode cX10_isNothing 5 = .ok (.if_icmp .ne 7, 3) := by decide +kernel
theorem dX10_isNothing_8 : decode cX10_isNothing 8 = .ok (.iconst 1, 1) := by decide +kernel
theorem dX10_isNothing_9 : decode cX10_isNothing 9 = .ok (.goto 4, 3) := by decide +kernel
theorem dX10_isNothing_12 : decode cX10_isNothing 12 = .ok (.iconst 0, 1) := by decide +kernel
theorem dX10_isNothing_13 : decode cX10_isNothing 13 = .ok (.ireturn, 1) := by decide +kernel
theorem dX10_hasPart_0 : decode cX10_hasPart 0 = .ok (.iload_n 2, 1) := by decide +kernel
theorem dX10_hasPart_1 : decode cX10_hasPart 1 = .ok (.ifCond .lt 29, 3) := by decide +kernel
theorem dX10_hasPart_4 : decode cX10_hasPart 4 = .ok (.iload_n 2, 1) := by decide +kernel
theorem dX10_hasPart_5 : decode cX10_hasPart 5 = .ok (.aload_n 0, 1) := by decide +kernel
theorem dX10_hasPart_6 : decode cX10_hasPart 6 = .ok (.getfield 19, 3) := by decide +kernel
theorem dX10_hasPart_9 : decode cX10_hasPart 9 = .ok (.if_icmp .gt 21, 3) := by decide +kernel
theorem dX10_hasPart_12 : decode cX10_hasPart 12 = .ok (.iload_n 1, 1) := by decide +kernel
theorem dX10_hasPart_13 : decode cX10_hasPart 13 = .ok (.ifCond .lt 17, 3) := by decide +kernel
theorem dX10_hasPart_16 : decode cX10_hasPart 16 = .ok (.iload_n 1, 1) := by decide +kernel
theorem dX10_hasPart_17 : decode cX10_hasPart 17 = .ok (.aload_n 0, 1) := by decide +kernel
theorem dX10_hasPart_18 : decode cX10_hasPart 18 = .ok (.getfield 19, 3) := by decide +kernel
theorem dX10_hasPart_21 : decode cX10_hasPart 21 = .ok (.iload_n 2, 1) := by decide +kernel
theorem dX10_hasPart_22 : decode cX10_hasPart 22 = .ok (.isub, 1) := by decide +kernel
theorem dX10_hasPart_23 : decode cX10_hasPart 23 = .ok (.if_icmp .gt 7, 3) := by decide +kernel
theorem dX10_hasPart_26 : decode cX10_hasPart 26 = .ok (.iconst 1, 1) := by decide +kernel
theorem dX10_hasPart_27 : decode cX10_hasPart 27 = .ok (.goto 4, 3) := by decide +kernel
theorem dX10_hasPart_30 : decode cX10_hasPart 30 = .ok (.iconst 0, 1) := by decide +kernel
theorem dX10_hasPart_31 : decode cX10_hasPart 31 = .ok (.ireturn, 1) := by decide +kernel
theorem dX10_store_0 : decode cX10_store 0 = .ok (.aload_n 0, 1) := by decide +kernel
theorem dX10_store_1 : decode cX10_store 1 = .ok (.getfield 9, 3) := by decide +kernel
theorem dX10_store_4 : decode cX10_store 4 = .ok (.iload_n 1, 1) := by decide +kernel
theorem dX10_store_5 : decode cX10_store 5 = .ok (.aload_n 0, 1) := by decide +kernel
theorem dX10_store_6 : decode cX10_store 6 = .ok (.getfield 15, 3) := by decide +kernel
theorem dX10_store_9 : decode cX10_store 9 = .ok (.iconst 1, 1) := by decide +kernel
theorem dX10_store_10 : decode cX10_store 10 = .ok (.if_icmp .ne 9, 3) := by decide +kernel
theorem dX10_store_13 : decode cX10_store 13 = .ok (.lload_n 2, 1) := by decide +kernel
theorem dX10_store_14 : decode cX10_store 14 = .ok (.l2i, 1) := by decide +kernel
theorem dX10_store_15 : decode cX10_store 15 = .ok (.i2l, 1) := by decide +kernel
theorem dX10_store_16 : decode cX10_store 16 = .ok (.goto 4, 3) := by decide +kernel
theorem dX10_store_19 : decode cX10_store 19 = .ok (.lload_n 2, 1) := by decide +kernel
theorem dX10_store_20 : decode cX10_store 20 = .ok (.lastore, 1) := by decide +kernel
theorem dX10_store_21 : decode cX10_store 21 = .ok (.return_, 1) := by decide +kernel
theorem dX11_init_0 : decode cX11_init 0 = .ok (.aload_n 0, 1) := by decide +kernel
theorem dX11_init_1 : decode cX11_init 1 = .ok (.invokespecial 5, 3) := by decide +kernel
theorem dX11_init_4 : decode cX11_init 4 = .ok (.aload_n 0, 1) := by decide +kernel
theorem dX11_init_5 : decode cX11_init 5 = .ok (.new 11, 3) := by decide +kernel
theorem dX11_init_8 : decode cX11_init 8 = .ok (.dup, 1) := by decide +kernel
theorem dX11_init_9 : decode cX11_init 9 = .ok (.invokespecial 13, 3) := by decide +kernel
theorem dX11_init_12 : decode cX11_init 12 = .ok (.putfield 14, 3) := by decide +kernel
theorem dX11_init_15 : decode cX11_init 15 = .ok (.aload_n 0, 1) := by decide +kernel
theorem dX11_init_16 : decode cX11_init 16 = .ok (.new 11, 3) := by decide +kernel
theorem dX11_init_19 : decode cX11_init 19 = .ok (.dup, 1) := by decide +kernel
theorem dX11_init_20 : decode cX11_init 20 = .ok (.invokespecial 13, 3) := by decide +kernel
theorem dX11_init_23 : decode cX11_init 23 = .ok (.putfield 18, 3) := by decide +kernel
theorem dX11_init_26 : decode cX11_init 26 = .ok (.aload_n 0, 1) := by decide +kernel
theorem dX11_init_27 : decode cX11_init 27 = .ok (.new 21, 3) := by decide +kernel
theorem dX11_init_30 : decode cX11_init 30 = .ok (.dup, 1) := by decide +kernel
theorem dX11_init_31 : decode cX11_init 31 = .ok (.invokespecial 23, 3) := by decide +kernel
theorem dX11_init_34 : decode cX11_init 34 = .ok (.putfield 24, 3) := by decide +kernel
theorem dX11_init_37 : decode cX11_init 37 = .ok (.aload_n 0, 1) := by decide +kernel
theorem dX11_init_38 : decode cX11_init 38 = .ok (.iconst 4, 1) := by decide +kernel
theorem dX11_init_39 : decode cX11_init 39 = .ok (.anewarray 28, 3) := by decide +kernel
theorem dX11_init_42 : decode cX11_init 42 = .ok (.putfield 30, 3) := by decide +kernel
theorem dX11_init_45 : decode cX11_init 45 = .ok (.aload_n 0, 1) := by decide +kernel
theorem dX11_init_46 : decode cX11_init 46 = .ok (.new 34, 3) := by decide +kernel
theorem dX11_init_49 : decode cX11_init 49 = .ok (.dup, 1) := by decide +kernel
theorem dX11_init_50 : decode cX11_init 50 = .ok (.invokespecial 36, 3) := by decide +kernel
theorem dX11_init_53 : decode cX11_init 53 = .ok (.putfield 37, 3) := by decide +kernel
theorem dX11_init_56 : decode cX11_init 56 = .ok (.aload_n 0, 1) := by decide +kernel
theorem dX11_init_57 : decode cX11_init 57 = .ok (.new 41, 3) := by decide +kernel
theorem dX11_init_60 : decode cX11_init 60 = .ok (.dup, 1) := by decide +kernel
theorem dX11_init_61 : decode cX11_init 61 = .ok (.invokespecial 43, 3) := by decide +kernel
theorem dX11_init_64 : decode cX11_init 64 = .ok (.putfield 44, 3) := by decide +kernel
theorem dX11_init_67 : decode cX11_init 67 = .ok (.aload_n 0, 1) := by decide +kernel
theorem dX11_init_68 : decode cX11_init 68 = .ok (.new 48, 3) := by decide +kernel
theorem dX11_init_71 : decode cX11_init 71 = .ok (.dup, 1) := by decide +kernel
theorem dX11_init_72 : decode cX11_init 72 = .ok (.invokespecial 50, 3) := by decide +kernel
theorem dX11_init_75 : decode cX11_init 75 = .ok (.putfield 51, 3) := by decide +kernel
theorem dX11_init_78 : decode cX11_init 78 = .ok (.aload_n 0, 1) := by decide +kernel
theorem dX11_init_79 : decode cX11_init 79 = .ok (.new 55, 3) := by decide +kernel
theorem dX11_init_82 : decode cX11_init 82 = .ok (.dup, 1) := by decide +kernel
theorem dX11_init_83 : decode cX11_init 83 = .ok (.iconst 0, 1) := by decide +kernel
theorem dX11_init_84 : decode cX11_init 84 = .ok (.invokespecial 57, 3) := by decide +kernel
theorem dX11_init_87 : decode cX11_init 87 = .ok (.putfield 60, 3) := by decide +kernel
theorem dX11_init_90 : decode cX11_init 90 = .ok (.aload_n 0, 1) := by decide +kernel
theorem dX11_init_91 : decode cX11_init 91 = .ok (.new 55, 3) := by decide +kernel
theorem dX11_init_94 : decode cX11_init 94 = .ok (.dup, 1) := by decide +kernel
theorem dX11_init_95 : decode cX11_init 95 = .ok (.iconst 1, 1) := by decide +kernel
theorem dX11_init_96 : decode cX11_init 96 = .ok (.invokespecial 57, 3) := by decide +kernel
theorem dX11_init_99 : decode cX11_init 99 = .ok (.putfield 64, 3) := by decide +kernel
theorem dX11_init_102 : decode cX11_init 102 = .ok (.aload_n 0, 1) := by decide +kernel
theorem dX11_init_103 : decode cX11_init 103 = .ok (.new 67, 3) := by decide +kernel
theorem dX11_init_106 : decode cX11_init 106 = .ok (.dup, 1) := by decide +kernel
theorem dX11_init_107 : decode cX11_init 107 = .ok (.invokespecial 69, 3) := by decide +kernel
theorem dX11_init_110 : decode cX11_init 110 = .ok (.putfield 70, 3) := by decide +kernel
theorem dX11_init_113 : decode cX11_init 113 = .ok (.aload_n 0, 1) := by decide +kernel
theorem dX11_init_114 : decode cX11_init 114 = .ok (.bipush 7, 2) := by decide +kernel
theorem dX11_init_116 : decode cX11_init 116 = .ok (.newarray .long, 2) := by decide +kernel
theorem dX11_init_118 : decode cX11_init 118 = .ok (.putfield 74, 3) := by decide +kernel
theorem dX11_init_121 : decode cX11_init 121 = .ok (.aload_n 0, 1) := by decide +kernel
theorem dX11_init_122 : decode cX11_init 122 = .ok (.getfield 14, 3) := by decide +kernel
theorem dX11_init_125 : decode cX11_init 125 = .ok (.getfield 78, 3) := by decide +kernel
theorem dX11_init_128 : decode cX11_init 128 = .ok (.iconst 1, 1) := by decide +kernel
theorem dX11_init_129 : decode cX11_init 129 = .ok (.lconst 1, 1) := by decide +kernel
theorem dX11_init_130 : decode cX11_init 130 = .ok (.lastore, 1) := by decide +kernel
theorem dX11_init_131 : decode cX11_init 131 = .ok (.iconst 0, 1) := by decide +kernel
theorem dX11_init_132 : decode cX11_init 132 = .ok (.istore_n 1, 1) := by decide +kernel
theorem dX11_init_133 : decode cX11_init 133 = .ok (.iload_n 1, 1) := by decide +kernel
theorem dX11_init_134 : decode cX11_init 134 = .ok (.iconst 4, 1) := by decide +kernel
theorem dX11_init_135 : decode cX11_init 135 = .ok (.if_icmp .ge 22, 3) := by decide +kernel
theorem dX11_init_138 : decode cX11_init 138 = .ok (.aload_n 0, 1) := by decide +kernel
theorem dX11_init_139 : decode cX11_init 139 = .ok (.getfield 30, 3) := by decide +kernel
theorem dX11_init_142 : decode cX11_init 142 = .ok (.iload_n 1, 1) := by decide +kernel
theorem dX11_init_143 : decode cX11_init 143 = .ok (.new 28, 3) := by decide +kernel
theorem dX11_init_146 : decode cX11_init 146 = .ok (.dup, 1) := by decide +kernel
theorem dX11_init_147 : decode cX11_init 147 = .ok (.invokespecial 81, 3) := by decide +kernel
theorem dX11_init_150 : decode cX11_init 150 = .ok (.aastore, 1) := by decide +kernel
theorem dX11_init_151 : decode cX11_init 151 = .ok (.iinc 1 1, 3) := by decide +kernel
theorem dX11_init_154 : decode cX11_init 154 = .ok (.goto (-21), 3) := by decide +kernel
theorem dX11_init_157 : decode cX11_init 157 = .ok (.return_, 1) := by decide +kernel
theorem dX11_set_0 : decode cX11_set 0 = .ok (.iload_n 1, 1) := by decide +kernel
theorem dX11_set_1 : decode cX11_set 1 = .ok (.ifCond .lt 24, 3) := by decide +kernel
theorem dX11_set_4 : decode cX11_set 4 = .ok (.iload_n 1, 1) := by decide +kernel
theorem dX11_set_5 : decode cX11_set 5 = .ok (.iconst 1, 1) := by decide +kernel
theorem dX11_set_6 : decode cX11_set 6 = .ok (.if_icmp .gt 19, 3) := by decide +kernel
theorem dX11_set_9 : decode cX11_set 9 = .ok (.iload_n 2, 1) := by decide +kernel
theorem dX11_set_10 : decode cX11_set 10 = .ok (.invokestatic 82, 3) := by decide +kernel
theorem dX11_set_13 : decode cX11_set 13 = .ok (.ifCond .eq 12, 3) := by decide +kernel
theorem dX11_set_16 : decode cX11_set 16 = .ok (.iload_n 3, 1) := by decide +kernel
theorem dX11_set_17 : decode cX11_set 17 = .ok (.bipush 99, 2) := by decide +kernel
theorem dX11_set_19 : decode cX11_set 19 = .ok (.invokestatic 86, 3) := by decide +kernel
theorem dX11_set_22 : decode cX11_set 22 = .ok (.ifCond .ne 7, 3) := by decide +kernel
theorem dX11_set_25 : decode cX11_set 25 = .ok (.ldc2_w 90, 3) := by decide +kernel
theorem dX11_set_28 : decode cX11_set 28 = .ok (.lreturn, 1) := by decide +kernel
theorem dX11_set_29 : decode cX11_set 29 = .ok (.iload_n 1, 1) := by decide +kernel
theorem dX11_set_30 : decode cX11_set 30 = .ok (.ifCond .ne 13, 3) := by decide +kernel
theorem dX11_set_33 : decode cX11_set 33 = .ok (.aload_n 0, 1) := by decide +kernel
theorem dX11_set_34 : decode cX11_set 34 = .ok (.getfield 14, 3) := by decide +kernel
theorem dX11_set_37 : decode cX11_set 37 = .ok (.getfield 78, 3) := by decide +kernel
theorem dX11_set_40 : decode cX11_set 40 = .ok (.goto 10, 3) := by decide +kernel
theorem dX11_set_43 : decode cX11_set 43 = .ok (.aload_n 0, 1) := by decide +kernel
theorem dX11_set_44 : decode cX11_set 44 = .ok (.getfield 14, 3) := by decide +kernel
theorem dX11_set_47 : decode cX11_set 47 = .ok (.getfield 92, 3) := by decide +kernel
theorem dX11_set_50 : decode cX11_set 50 = .ok (.astore 4, 2) := by decide +kernel
theorem dX11_set_52 : decode cX11_set 52 = .ok (.aload 4, 2) := by decide +kernel
theorem dX11_set_54 : decode cX11_set 54 = .ok (.iload_n 2, 1) := by decide +kernel
theorem dX11_set_55 : decode cX11_set 55 = .ok (.laload, 1) := by decide +kernel
theorem dX11_set_56 : decode cX11_set 56 = .ok (.lstore 5, 2) := by decide +kernel
theorem dX11_set_58 : decode cX11_set 58 = .ok (.aload 4, 2) := by decide +kernel
theorem dX11_set_60 : decode cX11_set 60 = .ok (.iload_n 2, 1) := by decide +kernel
theorem dX11_set_61 : decode cX11_set 61 = .ok (.iload_n 3, 1) := by decide +kernel
theorem dX11_set_62 : decode cX11_set 62 = .ok (.i2l, 1) := by decide +kernel
theorem dX11_set_63 : decode cX11_set 63 = .ok (.lastore, 1) := by decide +kernel
theorem dX11_set_64 : decode cX11_set 64 = .ok (.aload_n 0, 1) := by decide +kernel
theorem dX11_set_65 : decode cX11_set 65 = .ok (.invokevirtual 95, 3) := by decide +kernel
theorem dX11_set_68 : decode cX11_set 68 = .ok (.lload 5, 2) := by decide +kernel
theorem dX11_set_70 : decode cX11_set 70 = .ok (.lreturn, 1) := by decide +kernel
theorem dX11_of_0 : decode cX11_of 0 = .ok (.iload_n 1, 1) := by decide +kernel
theorem dX11_of_1 : decode cX11_of 1 = .ok (.ifCond .lt 15, 3) := by decide +kernel
theorem dX11_of_4 : decode cX11_of 4 = .ok (.iload_n 1, 1) := by decide +kernel
theorem dX11_of_5 : decode cX11_of 5 = .ok (.iconst 2, 1) := by decide +kernel
theorem dX11_of_6 : decode cX11_of 6 = .ok (.if_icmp .gt 10, 3) := by decide +kernel
theorem dX11_of_9 : decode cX11_of 9 = .ok (.iload_n 2, 1) := by decide +kernel
theorem dX11_of_10 : decode cX11_of 10 = .ok (.invokestatic 82, 3) := by decide +kernel
theorem dX11_of_13 : decode cX11_of 13 = .ok (.ifCond .ne 7, 3) := by decide +kernel
theorem dX11_of_16 : decode cX11_of 16 = .ok (.ldc2_w 90, 3) := by decide +kernel
theorem dX11_of_19 : decode cX11_of 19 = .ok (.lreturn, 1) := by decide +kernel
theorem dX11_of_20 : decode cX11_of 20 = .ok (.iload_n 1, 1) := by decide +kernel
theorem dX11_of_21 : decode cX11_of 21 = .ok (.iconst 2, 1) := by decide +kernel
theorem dX11_of_22 : decode cX11_of 22 = .ok (.if_icmp .ne 10, 3) := by decide +kernel
theorem dX11_of_25 : decode cX11_of 25 = .ok (.aload_n 0, 1) := by decide +kernel
theorem dX11_of_26 : decode cX11_of 26 = .ok (.invokevirtual 98, 3) := by decide +kernel
theorem dX11_of_29 : decode cX11_of 29 = .ok (.iload_n 2, 1) := by decide +kernel
theorem dX11_of_30 : decode cX11_of 30 = .ok (.laload, 1) := by decide +kernel
theorem dX11_of_31 : decode cX11_of 31 = .ok (.lreturn, 1) := by decide +kernel
theorem dX11_of_32 : decode cX11_of 32 = .ok (.iload_n 1, 1) := by decide +kernel
theorem dX11_of_33 : decode cX11_of 33 = .ok (.ifCond .ne 15, 3) := by decide +kernel
theorem dX11_of_36 : decode cX11_of 36 = .ok (.aload_n 0, 1) := by decide +kernel
theorem dX11_of_37 : decode cX11_of 37 = .ok (.getfield 14, 3) := by decide +kernel
theorem dX11_of_40 : decode cX11_of 40 = .ok (.getfield 78, 3) := by decide +kernel
theorem dX11_of_43 : decode cX11_of 43 = .ok (.iload_n 2, 1) := by decide +kernel
theorem dX11_of_44 : decode cX11_of 44 = .ok (.laload, 1) := by decide +kernel
theorem dX11_of_45 : decode cX11_of 45 = .ok (.goto 12, 3) := by decide +kernel
theorem dX11_of_48 : decode cX11_of 48 = .ok (.aload_n 0, 1) := by decide +kernel
theorem dX11_of_49 : decode cX11_of 49 = .ok (.getfield 14, 3) := by decide +kernel
theorem dX11_of_52 : decode cX11_of 52 = .ok (.getfield 92, 3) := by decide +kernel
theorem dX11_of_55 : decode cX11_of 55 = .ok (.iload_n 2, 1) := by decide +kernel
theorem dX11_of_56 : decode cX11_of 56 = .ok (.laload, 1) := by decide +kernel
theorem dX11_of_57 : decode cX11_of 57 = .ok (.lreturn, 1) := by decide +kernel
theorem dX11_gain_0 : decode cX11_gain 0 = .ok (.iload_n 1, 1) := by decide +kernel
theorem dX11_gain_1 : decode cX11_gain 1 = .ok (.bipush 100, 2) := by decide +kernel
theorem dX11_gain_3 : decode cX11_gain 3 = .ok (.invokestatic 86, 3) := by decide +kernel
theorem dX11_gain_6 : decode cX11_gain 6 = .ok (.ifCond .ne 6, 3) := by decide +kernel
theorem dX11_gain_9 : decode cX11_gain 9 = .ok (.bipush (-2), 2) := by decide +kernel
theorem dX11_gain_11 : decode cX11_gain 11 = .ok (.ireturn, 1) := by decide +kernel
theorem dX11_gain_12 : decode cX11_gain 12 = .ok (.aload_n 0, 1) := by decide +kernel
theorem dX11_gain_13 : decode cX11_gain 13 = .ok (.getfield 14, 3) := by decide +kernel
theorem dX11_gain_16 : decode cX11_gain 16 = .ok (.iload_n 1, 1) := by decide +kernel
theorem dX11_gain_17 : decode cX11_gain 17 = .ok (.putfield 102, 3) := by decide +kernel
theorem dX11_gain_20 : decode cX11_gain 20 = .ok (.iconst 1, 1) := by decide +kernel
theorem dX11_gain_21 : decode cX11_gain 21 = .ok (.ireturn, 1) := by decide +kernel
theorem dX11_feed_0 : decode cX11_feed 0 = .ok (.iload_n 1, 1) := by decide +kernel
theorem dX11_feed_1 : decode cX11_feed 1 = .ok (.ifCond .lt 9, 3) := by decide +kernel
theorem dX11_feed_4 : decode cX11_feed 4 = .ok (.iload_n 1, 1) := by decide +kernel
theorem dX11_feed_5 : decode cX11_feed 5 = .ok (.bipush 127, 2) := by decide +kernel
theorem dX11_feed_7 : decode cX11_feed 7 = .ok (.if_icmp .le 6, 3) := by decide +kernel
theorem dX11_feed_10 : decode cX11_feed 10 = .ok (.bipush (-2), 2) := by decide +kernel
theorem dX11_feed_12 : decode cX11_feed 12 = .ok (.ireturn, 1) := by decide +kernel
theorem dX11_feed_13 : decode cX11_feed 13 = .ok (.aload_n 0, 1) := by decide +kernel
theorem dX11_feed_14 : decode cX11_feed 14 = .ok (.getfield 24, 3) := by decide +kernel
theorem dX11_feed_17 : decode cX11_feed 17 = .ok (.getfield 106, 3) := by decide +kernel
theorem dX11_feed_20 : decode cX11_feed 20 = .ok (.bipush 60, 2) := by decide +kernel
theorem dX11_feed_22 : decode cX11_feed 22 = .ok (.if_icmp .lt 6, 3) := by decide +kernel
theorem dX11_feed_25 : decode cX11_feed 25 = .ok (.bipush (-4), 2) := by decide +kernel
theorem dX11_feed_27 : decode cX11_feed 27 = .ok (.ireturn, 1) := by decide +kernel
theorem dX11_feed_28 : decode cX11_feed 28 = .ok (.aload_n 0, 1) := by decide +kernel
theorem dX11_feed_29 : decode cX11_feed 29 = .ok (.getfield 24, 3) := by decide +kernel
theorem dX11_feed_32 : decode cX11_feed 32 = .ok (.iload_n 1, 1) := by decide +kernel
theorem dX11_feed_33 : decode cX11_feed 33 = .ok (.invokevirtual 109, 3) := by decide +kernel
theorem dX11_feed_36 : decode cX11_feed 36 = .ok (.aload_n 0, 1) := by decide +kernel
theorem dX11_feed_37 : decode cX11_feed 37 = .ok (.getfield 24, 3) := by decide +kernel
theorem dX11_feed_40 : decode cX11_feed 40 = .ok (.getfield 106, 3) := by decide +kernel
theorem dX11_feed_43 : decode cX11_feed 43 = .ok (.ireturn, 1) := by decide +kernel
theorem dX11_read_0 : decode cX11_read 0 = .ok (.aload_n 0, 1) := by decide +kernel
theorem dX11_read_1 : decode cX11_read 1 = .ok (.getfield 24, 3) := by decide +kernel
theorem dX11_read_4 : decode cX11_read 4 = .ok (.invokevirtual 112, 3) := by decide +kernel
theorem dX11_read_7 : decode cX11_read 7 = .ok (.aload_n 0, 1) := by decide +kernel
theorem dX11_read_8 : decode cX11_read 8 = .ok (.getfield 24, 3) := by decide +kernel
theorem dX11_read_11 : decode cX11_read 11 = .ok (.iconst 0, 1) := by decide +kernel
theorem dX11_read_12 : decode cX11_read 12 = .ok (.putfield 106, 3) := by decide +kernel
theorem dX11_read_15 : decode cX11_read 15 = .ok (.aload_n 0, 1) := by decide +kernel
theorem dX11_read_16 : decode cX11_read 16 = .ok (.getfield 24, 3) := by decide +kernel
theorem dX11_read_19 : decode cX11_read 19 = .ok (.getfield 115, 3) := by decide +kernel
theorem dX11_read_22 : decode cX11_read 22 = .ok (.iconst (-1), 1) := by decide +kernel
theorem dX11_read_23 : decode cX11_read 23 = .ok (.if_icmp .eq 14, 3) := by decide +kernel
theorem dX11_read_26 : decode cX11_read 26 = .ok (.bipush (-100), 2) := by decide +kernel
theorem dX11_read_28 : decode cX11_read 28 = .ok (.aload_n 0, 1) := by decide +kernel
theorem dX11_read_29 : decode cX11_read 29 = .ok (.getfield 24, 3) := by decide +kernel
theorem dX11_read_32 : decode cX11_read 32 = .ok (.getfield 115, 3) := by decide +kernel
theorem dX11_read_35 : decode cX11_read 35 = .ok (.isub, 1) := by decide +kernel
theorem dX11_read_36 : decode cX11_read 36 = .ok (.ireturn, 1) := by decide +kernel
theorem dX11_read_37 : decode cX11_read 37 = .ok (.aload_n 0, 1) := by decide +kernel
theorem dX11_read_38 : decode cX11_read 38 = .ok (.getfield 24, 3) := by decide +kernel
theorem dX11_read_41 : decode cX11_read 41 = .ok (.getfield 118, 3) := by decide +kernel
theorem dX11_read_44 : decode cX11_read 44 = .ok (.iconst 0, 1) := by decide +kernel
theorem dX11_read_45 : decode cX11_read 45 = .ok (.aload_n 0, 1) := by decide +kernel
theorem dX11_read_46 : decode cX11_read 46 = .ok (.getfield 14, 3) := by decide +kernel
theorem dX11_read_49 : decode cX11_read 49 = .ok (.getfield 78, 3) := by decide +kernel
theorem dX11_read_52 : decode cX11_read 52 = .ok (.iconst 0, 1) := by decide +kernel
theorem dX11_read_53 : decode cX11_read 53 = .ok (.bipush 7, 2) := by decide +kernel
theorem dX11_read_55 : decode cX11_read 55 = .ok (.invokestatic 119, 3) := by decide +kernel
theorem dX11_read_58 : decode cX11_read 58 = .ok (.aload_n 0, 1) := by decide +kernel
theorem dX11_read_59 : decode cX11_read 59 = .ok (.getfield 24, 3) := by decide +kernel
theorem dX11_read_62 : decode cX11_read 62 = .ok (.getfield 125, 3) := by decide +kernel
theorem dX11_read_65 : decode cX11_read 65 = .ok (.iconst 0, 1) := by decide +kernel
theorem dX11_read_66 : decode cX11_read 66 = .ok (.aload_n 0, 1) := by decide +kernel
theorem dX11_read_67 : decode cX11_read 67 = .ok (.getfield 14, 3) := by decide +kernel
theorem dX11_read_70 : decode cX11_read 70 = .ok (.getfield 92, 3) := by decide +kernel
theorem dX11_read_73 : decode cX11_read 73 = .ok (.iconst 0, 1) := by decide +kernel
theorem dX11_read_74 : decode cX11_read 74 = .ok (.bipush 7, 2) := by decide +kernel
theorem dX11_read_76 : decode cX11_read 76 = .ok (.invokestatic 119, 3) := by decide +kernel
theorem dX11_read_79 : decode cX11_read 79 = .ok (.aload_n 0, 1) := by decide +kernel
theorem dX11_read_80 : decode cX11_read 80 = .ok (.invokevirtual 95, 3) := by decide +kernel
theorem dX11_read_83 : decode cX11_read 83 = .ok (.aload_n 0, 1) := by decide +kernel
theorem dX11_read_84 : decode cX11_read 84 = .ok (.dup, 1) := by decide +kernel
theorem dX11_read_85 : decode cX11_read 85 = .ok (.getfield 126, 3) := by decide +kernel
theorem dX11_read_88 : decode cX11_read 88 = .ok (.iconst 1, 1) := by decide +kernel
theorem dX11_read_89 : decode cX11_read 89 = .ok (.iadd, 1) := by decide +kernel
theorem dX11_read_90 : decode cX11_read 90 = .ok (.putfield 126, 3) := by decide +kernel
theorem dX11_read_93 : decode cX11_read 93 = .ok (.aload_n 0, 1) := by decide +kernel
theorem dX11_read_94 : decode cX11_read 94 = .ok (.getfield 24, 3) := by decide +kernel
theorem dX11_read_97 : decode cX11_read 97 = .ok (.getfield 129, 3) := by decide +kernel
theorem dX11_read_100 : decode cX11_read 100 = .ok (.ireturn, 1) := by decide +kernel
theorem dX11_form_0 : decode cX11_form 0 = .ok (.iload_n 1, 1) := by decide +kernel
theorem dX11_form_1 : decode cX11_form 1 = .ok (.invokestatic 132, 3) := by decide +kernel
theorem dX11_form_4 : decode cX11_form 4 = .ok (.ifCond .eq 10, 3) := by decide +kernel
theorem dX11_form_7 : decode cX11_form 7 = .ok (.iload_n 2, 1) := by decide +kernel
theorem dX11_form_8 : decode cX11_form 8 = .ok (.invokestatic 82, 3) := by decide +kernel
theorem dX11_form_11 : decode cX11_form 11 = .ok (.ifCond .ne 7, 3) := by decide +kernel
theorem dX11_form_14 : decode cX11_form 14 = .ok (.ldc2_w 90, 3) := by decide +kernel
theorem dX11_form_17 : decode cX11_form 17 = .ok (.lreturn, 1) := by decide +kernel
theorem dX11_form_18 : decode cX11_form 18 = .ok (.aload_n 0, 1) := by decide +kernel
theorem dX11_form_19 : decode cX11_form 19 = .ok (.getfield 37, 3) := by decide +kernel
theorem dX11_form_22 : decode cX11_form 22 = .ok (.aload_n 0, 1) := by decide +kernel
theorem dX11_form_23 : decode cX11_form 23 = .ok (.invokevirtual 98, 3) := by decide +kernel
theorem dX11_form_26 : decode cX11_form 26 = .ok (.iload_n 1, 1) := by decide +kernel
theorem dX11_form_27 : decode cX11_form 27 = .ok (.invokevirtual 135, 3) := by decide +kernel
theorem dX11_form_30 : decode cX11_form 30 = .ok (.aload_n 0, 1) := by decide +kernel
theorem dX11_form_31 : decode cX11_form 31 = .ok (.getfield 37, 3) := by decide +kernel
theorem dX11_form_34 : decode cX11_form 34 = .ok (.getfield 139, 3) := by decide +kernel
theorem dX11_form_37 : decode cX11_form 37 = .ok (.iload_n 2, 1) := by decide +kernel
theorem dX11_form_38 : decode cX11_form 38 = .ok (.laload, 1) := by decide +kernel
theorem dX11_form_39 : decode cX11_form 39 = .ok (.lreturn, 1) := by decide +kernel
theorem dX11_degree_0 : decode cX11_degree 0 = .ok (.iload_n 1, 1) := by decide +kernel
theorem dX11_degree_1 : decode cX11_degree 1 = .ok (.invokestatic 132, 3) := by decide +kernel
theorem dX11_degree_4 : decode cX11_degree 4 = .ok (.ifCond .eq 12, 3) := by decide +kernel
theorem dX11_degree_7 : decode cX11_degree 7 = .ok (.iload_n 2, 1) := by decide +kernel
theorem dX11_degree_8 : decode cX11_degree 8 = .ok (.ifCond .lt 8, 3) := by decide +kernel
theorem dX11_degree_11 : decode cX11_degree 11 = .ok (.iload_n 2, 1) := by decide +kernel
theorem dX11_degree_12 : decode cX11_degree 12 = .ok (.iconst 1, 1) := by decide +kernel
theorem dX11_degree_13 : decode cX11_degree 13 = .ok (.if_icmp .le 6, 3) := by decide +kernel
theorem dX11_degree_16 : decode cX11_degree 16 = .ok (.bipush (-2), 2) := by decide +kernel
theorem dX11_degree_18 : decode cX11_degree 18 = .ok (.ireturn, 1) := by decide +kernel
theorem dX11_degree_19 : decode cX11_degree 19 = .ok (.aload_n 0, 1) := by decide +kernel
theorem dX11_degree_20 : decode cX11_degree 20 = .ok (.getfield 37, 3) := by decide +kernel
theorem dX11_degree_23 : decode cX11_degree 23 = .ok (.aload_n 0, 1) := by decide +kernel
theorem dX11_degree_24 : decode cX11_degree 24 = .ok (.invokevirtual 98, 3) := by decide +kernel
theorem dX11_degree_27 : decode cX11_degree 27 = .ok (.iload_n 1, 1) := by decide +kernel
theorem dX11_degree_28 : decode cX11_degree 28 = .ok (.invokevirtual 135, 3) := by decide +kernel
theorem dX11_degree_31 : decode cX11_degree 31 = .ok (.iload_n 2, 1) := by decide +kernel
theorem dX11_degree_32 : decode cX11_degree 32 = .ok (.ifCond .ne 13, 3) := by decide +kernel
theorem dX11_degree_35 : decode cX11_degree 35 = .ok (.aload_n 0, 1) := by decide +kernel
theorem dX11_degree_36 : decode cX11_degree 36 = .ok (.getfield 37, 3) := by decide +kernel
theorem dX11_degree_39 : decode cX11_degree 39 = .ok (.getfield 142, 3) := by decide +kernel
theorem dX11_degree_42 : decode cX11_degree 42 = .ok (.goto 10, 3) := by decide +kernel
theorem dX11_degree_45 : decode cX11_degree 45 = .ok (.aload_n 0, 1) := by decide +kernel
theorem dX11_degree_46 : decode cX11_degree 46 = .ok (.getfield 37, 3) := by decide +kernel
theorem dX11_degree_49 : decode cX11_degree 49 = .ok (.getfield 145, 3) := by decide +kernel
theorem dX11_degree_52 : decode cX11_degree 52 = .ok (.ireturn, 1) := by decide +kernel
theorem dX11_row_0 : decode cX11_row 0 = .ok (.iload_n 1, 1) := by decide +kernel
theorem dX11_row_1 : decode cX11_row 1 = .ok (.invokestatic 132, 3) := by decide +kernel
theorem dX11_row_4 : decode cX11_row 4 = .ok (.ifCond .ne 7, 3) := by decide +kernel
theorem dX11_row_7 : decode cX11_row 7 = .ok (.ldc2_w 90, 3) := by decide +kernel
theorem dX11_row_10 : decode cX11_row 10 = .ok (.lreturn, 1) := by decide +kernel
theorem dX11_row_11 : decode cX11_row 11 = .ok (.aload_n 0, 1) := by decide +kernel
theorem dX11_row_12 : decode cX11_row 12 = .ok (.iload_n 1, 1) := by decide +kernel
theorem dX11_row_13 : decode cX11_row 13 = .ok (.invokevirtual 148, 3) := by decide +kernel
theorem dX11_row_16 : decode cX11_row 16 = .ok (.astore 4, 2) := by decide +kernel
theorem dX11_row_18 : decode cX11_row 18 = .ok (.aload 4, 2) := by decide +kernel
theorem dX11_row_20 : decode cX11_row 20 = .ok (.getfield 152, 3) := by decide +kernel
theorem dX11_row_23 : decode cX11_row 23 = .ok (.ifCond .ne 26, 3) := by decide +kernel
theorem dX11_row_26 : decode cX11_row 26 = .ok (.aload 4, 2) := by decide +kernel
theorem dX11_row_28 : decode cX11_row 28 = .ok (.iload_n 2, 1) := by decide +kernel
theorem dX11_row_29 : decode cX11_row 29 = .ok (.invokevirtual 156, 3) := by decide +kernel
theorem dX11_row_32 : decode cX11_row 32 = .ok (.ifCond .eq 17, 3) := by decide +kernel
theorem dX11_row_35 : decode cX11_row 35 = .ok (.iload_n 3, 1) := by decide +kernel
theorem dX11_row_36 : decode cX11_row 36 = .ok (.ifCond .lt 13, 3) := by decide +kernel
theorem dX11_row_39 : decode cX11_row 39 = .ok (.iload_n 3, 1) := by decide +kernel
theorem dX11_row_40 : decode cX11_row 40 = .ok (.aload 4, 2) := by decide +kernel
theorem dX11_row_42 : decode cX11_row 42 = .ok (.iload_n 2, 1) := by decide +kernel
theorem dX11_row_43 : decode cX11_row 43 = .ok (.invokevirtual 159, 3) := by decide +kernel
theorem dX11_row_46 : decode cX11_row 46 = .ok (.if_icmp .lt 7, 3) := by decide +kernel
theorem dX11_row_49 : decode cX11_row 49 = .ok (.ldc2_w 90, 3) := by decide +kernel
theorem dX11_row_52 : decode cX11_row 52 = .ok (.lreturn, 1) := by decide +kernel
theorem dX11_row_53 : decode cX11_row 53 = .ok (.aload 4, 2) := by decide +kernel
theorem dX11_row_55 : decode cX11_row 55 = .ok (.iload_n 2, 1) := by decide +kernel
theorem dX11_row_56 : decode cX11_row 56 = .ok (.iload_n 3, 1) := by decide +kernel
theorem dX11_row_57 : decode cX11_row 57 = .ok (.invokevirtual 163, 3) := by decide +kernel
theorem dX11_row_60 : decode cX11_row 60 = .ok (.lreturn, 1) := by decide +kernel
theorem dX11_caseOf_0 : decode cX11_caseOf 0 = .ok (.iload_n 1, 1) := by decide +kernel
theorem dX11_caseOf_1 : decode cX11_caseOf 1 = .ok (.invokestatic 132, 3) := by decide +kernel
theorem dX11_caseOf_4 : decode cX11_caseOf 4 = .ok (.ifCond .ne 6, 3) := by decide +kernel
theorem dX11_caseOf_7 : decode cX11_caseOf 7 = .ok (.bipush (-2), 2) := by decide +kernel
theorem dX11_caseOf_9 : decode cX11_caseOf 9 = .ok (.ireturn, 1) := by decide +kernel
theorem dX11_caseOf_10 : decode cX11_caseOf 10 = .ok (.aload_n 0, 1) := by decide +kernel
theorem dX11_caseOf_11 : decode cX11_caseOf 11 = .ok (.iload_n 1, 1) := by decide +kernel
theorem dX11_caseOf_12 : decode cX11_caseOf 12 = .ok (.invokevirtual 148, 3) := by decide +kernel
theorem dX11_caseOf_15 : decode cX11_caseOf 15 = .ok (.astore_n 3, 1) := by decide +kernel
theorem dX11_caseOf_16 : decode cX11_caseOf 16 = .ok (.aload_n 3, 1) := by decide +kernel
theorem dX11_caseOf_17 : decode cX11_caseOf 17 = .ok (.iload_n 2, 1) := by decide +kernel
theorem dX11_caseOf_18 : decode cX11_caseOf 18 = .ok (.invokevirtual 156, 3) := by decide +kernel
theorem dX11_caseOf_21 : decode cX11_caseOf 21 = .ok (.ifCond .ne 5, 3) := by decide +kernel
theorem dX11_caseOf_24 : decode cX11_caseOf 24 = .ok (.iconst (-1), 1) := by decide +kernel
theorem dX11_caseOf_25 : decode cX11_caseOf 25 = .ok (.ireturn, 1) := by decide +kernel
theorem dX11_caseOf_26 : decode cX11_caseOf 26 = .ok (.aload_n 3, 1) := by decide +kernel
theorem dX11_caseOf_27 : decode cX11_caseOf 27 = .ok (.getfield 152, 3) := by decide +kernel
theorem dX11_caseOf_30 : decode cX11_caseOf 30 = .ok (.ifCond .eq 8, 3) := by decide +kernel
theorem dX11_caseOf_33 : decode cX11_caseOf 33 = .ok (.bipush (-7), 2) := by decide +kernel
theorem dX11_caseOf_35 : decode cX11_caseOf 35 = .ok (.goto 8, 3) := by decide +kernel
theorem dX11_caseOf_38 : decode cX11_caseOf 38 = .ok (.aload_n 3, 1) := by decide +kernel
theorem dX11_caseOf_39 : decode cX11_caseOf 39 = .ok (.iload_n 2, 1) := by decide +kernel
theorem dX11_caseOf_40 : decode cX11_caseOf 40 = .ok (.invokevirtual 167, 3) := by decide +kernel
theorem dX11_caseOf_43 : decode cX11_caseOf 43 = .ok (.ireturn, 1) := by decide +kernel
theorem dX11_roots_0 : decode cX11_roots 0 = .ok (.iload_n 1, 1) := by decide +kernel
theorem dX11_roots_1 : decode cX11_roots 1 = .ok (.invokestatic 132, 3) := by decide +kernel
theorem dX11_roots_4 : decode cX11_roots 4 = .ok (.ifCond .eq 12, 3) := by decide +kernel
theorem dX11_roots_7 : decode cX11_roots 7 = .ok (.iload_n 2, 1) := by decide +kernel
theorem dX11_roots_8 : decode cX11_roots 8 = .ok (.ifCond .lt 8, 3) := by decide +kernel
theorem dX11_roots_11 : decode cX11_roots 11 = .ok (.iload_n 2, 1) := by decide +kernel
theorem dX11_roots_12 : decode cX11_roots 12 = .ok (.iconst 4, 1) := by decide +kernel
theorem dX11_roots_13 : decode cX11_roots 13 = .ok (.if_icmp .le 6, 3) := by decide +kernel
theorem dX11_roots_16 : decode cX11_roots 16 = .ok (.bipush (-2), 2) := by decide +kernel
theorem dX11_roots_18 : decode cX11_roots 18 = .ok (.ireturn, 1) := by decide +kernel
theorem dX11_roots_19 : decode cX11_roots 19 = .ok (.aload_n 0, 1) := by decide +kernel
theorem dX11_roots_20 : decode cX11_roots 20 = .ok (.iload_n 1, 1) := by decide +kernel
theorem dX11_roots_21 : decode cX11_roots 21 = .ok (.invokevirtual 148, 3) := by decide +kernel
theorem dX11_roots_24 : decode cX11_roots 24 = .ok (.astore_n 3, 1) := by decide +kernel
theorem dX11_roots_25 : decode cX11_roots 25 = .ok (.aload_n 3, 1) := by decide +kernel
theorem dX11_roots_26 : decode cX11_roots 26 = .ok (.getfield 152, 3) := by decide +kernel
theorem dX11_roots_29 : decode cX11_roots 29 = .ok (.ifCond .eq 6, 3) := by decide +kernel
theorem dX11_roots_32 : decode cX11_roots 32 = .ok (.bipush (-7), 2) := by decide +kernel
theorem dX11_roots_34 : decode cX11_roots 34 = .ok (.ireturn, 1) := by decide +kernel
theorem dX11_roots_35 : decode cX11_roots 35 = .ok (.iload_n 2, 1) := by decide +kernel
theorem dX11_roots_36 : decode cX11_roots 36 = .ok (.tableswitch 52 0 3 #[32, 37, 42, 47], 32) := by decide +kernel
theorem dX11_roots_68 : decode cX11_roots 68 = .ok (.aload_n 3, 1) := by decide +kernel
theorem dX11_roots_69 : decode cX11_roots 69 = .ok (.invokevirtual 170, 3) := by decide +kernel
theorem dX11_roots_72 : decode cX11_roots 72 = .ok (.ireturn, 1) := by decide +kernel
theorem dX11_roots_73 : decode cX11_roots 73 = .ok (.aload_n 3, 1) := by decide +kernel
theorem dX11_roots_74 : decode cX11_roots 74 = .ok (.invokevirtual 174, 3) := by decide +kernel
theorem dX11_roots_77 : decode cX11_roots 77 = .ok (.ireturn, 1) := by decide +kernel
theorem dX11_roots_78 : decode cX11_roots 78 = .ok (.aload_n 3, 1) := by decide +kernel
theorem dX11_roots_79 : decode cX11_roots 79 = .ok (.invokevirtual 177, 3) := by decide +kernel
theorem dX11_roots_82 : decode cX11_roots 82 = .ok (.ireturn, 1) := by decide +kernel
theorem dX11_roots_83 : decode cX11_roots 83 = .ok (.aload_n 3, 1) := by decide +kernel
theorem dX11_roots_84 : decode cX11_roots 84 = .ok (.invokevirtual 180, 3) := by decide +kernel
theorem dX11_roots_87 : decode cX11_roots 87 = .ok (.ireturn, 1) := by decide +kernel
theorem dX11_roots_88 : decode cX11_roots 88 = .ok (.aload_n 3, 1) := by decide +kernel
theorem dX11_roots_89 : decode cX11_roots 89 = .ok (.invokevirtual 174, 3) := by decide +kernel
theorem dX11_roots_92 : decode cX11_roots 92 = .ok (.iload_n 1, 1) := by decide +kernel
theorem dX11_roots_93 : decode cX11_roots 93 = .ok (.iconst 3, 1) := by decide +kernel
theorem dX11_roots_94 : decode cX11_roots 94 = .ok (.if_icmp .ne 10, 3) := by decide +kernel
theorem dX11_roots_97 : decode cX11_roots 97 = .ok (.aload_n 3, 1) := by decide +kernel
theorem dX11_roots_98 : decode cX11_roots 98 = .ok (.getfield 145, 3) := by decide +kernel
theorem dX11_roots_101 : decode cX11_roots 101 = .ok (.goto 4, 3) := by decide +kernel
theorem dX11_roots_104 : decode cX11_roots 104 = .ok (.iconst 0, 1) := by decide +kernel
theorem dX11_roots_105 : decode cX11_roots 105 = .ok (.iadd, 1) := by decide +kernel
theorem dX11_roots_106 : decode cX11_roots 106 = .ok (.ireturn, 1) := by decide +kernel
theorem dX11_changes_0 : decode cX11_changes 0 = .ok (.iload_n 1, 1) := by decide +kernel
theorem dX11_changes_1 : decode cX11_changes 1 = .ok (.invokestatic 132, 3) := by decide +kernel
theorem dX11_changes_4 : decode cX11_changes 4 = .ok (.ifCond .ne 6, 3) := by decide +kernel
theorem dX11_changes_7 : decode cX11_changes 7 = .ok (.bipush (-2), 2) := by decide +kernel
theorem dX11_changes_9 : decode cX11_changes 9 = .ok (.ireturn, 1) := by decide +kernel
theorem dX11_changes_10 : decode cX11_changes 10 = .ok (.aload_n 0, 1) := by decide +kernel
theorem dX11_changes_11 : decode cX11_changes 11 = .ok (.iload_n 1, 1) := by decide +kernel
theorem dX11_changes_12 : decode cX11_changes 12 = .ok (.invokevirtual 148, 3) := by decide +kernel
theorem dX11_changes_15 : decode cX11_changes 15 = .ok (.astore 4, 2) := by decide +kernel
theorem dX11_changes_17 : decode cX11_changes 17 = .ok (.aload 4, 2) := by decide +kernel
theorem dX11_changes_19 : decode cX11_changes 19 = .ok (.iload_n 2, 1) := by decide +kernel
theorem dX11_changes_20 : decode cX11_changes 20 = .ok (.invokevirtual 156, 3) := by decide +kernel
theorem dX11_changes_23 : decode cX11_changes 23 = .ok (.ifCond .eq 17, 3) := by decide +kernel
theorem dX11_changes_26 : decode cX11_changes 26 = .ok (.aload 4, 2) := by decide +kernel
theorem dX11_changes_28 : decode cX11_changes 28 = .ok (.iload_n 3, 1) := by decide +kernel
theorem dX11_changes_29 : decode cX11_changes 29 = .ok (.invokevirtual 156, 3) := by decide +kernel
theorem dX11_changes_32 : decode cX11_changes 32 = .ok (.ifCond .eq 8, 3) := by decide +kernel
theorem dX11_changes_35 : decode cX11_changes 35 = .ok (.iload_n 3, 1) := by decide +kernel
theorem dX11_changes_36 : decode cX11_changes 36 = .ok (.iload_n 2, 1) := by decide +kernel
theorem dX11_changes_37 : decode cX11_changes 37 = .ok (.if_icmp .ge 5, 3) := by decide +kernel
theorem dX11_changes_40 : decode cX11_changes 40 = .ok (.iconst (-1), 1) := by decide +kernel
theorem dX11_changes_41 : decode cX11_changes 41 = .ok (.ireturn, 1) := by decide +kernel
theorem dX11_changes_42 : decode cX11_changes 42 = .ok (.aload 4, 2) := by decide +kernel
theorem dX11_changes_44 : decode cX11_changes 44 = .ok (.getfield 152, 3) := by decide +kernel
theorem dX11_changes_47 : decode cX11_changes 47 = .ok (.ifCond .eq 8, 3) := by decide +kernel
theorem dX11_changes_50 : decode cX11_changes 50 = .ok (.bipush (-7), 2) := by decide +kernel
theorem dX11_changes_52 : decode cX11_changes 52 = .ok (.goto 10, 3) := by decide +kernel
theorem dX11_changes_55 : decode cX11_changes 55 = .ok (.aload 4, 2) := by decide +kernel
theorem dX11_changes_57 : decode cX11_changes 57 = .ok (.iload_n 2, 1) := by decide +kernel
theorem dX11_changes_58 : decode cX11_changes 58 = .ok (.iload_n 3, 1) := by decide +kernel
theorem dX11_changes_59 : decode cX11_changes 59 = .ok (.invokevirtual 183, 3) := by decide +kernel
theorem dX11_changes_62 : decode cX11_changes 62 = .ok (.ireturn, 1) := by decide +kernel
theorem dX11_strip_0 : decode cX11_strip 0 = .ok (.iload_n 1, 1) := by decide +kernel
theorem dX11_strip_1 : decode cX11_strip 1 = .ok (.bipush 20, 2) := by decide +kernel
theorem dX11_strip_3 : decode cX11_strip 3 = .ok (.invokestatic 86, 3) := by decide +kernel
theorem dX11_strip_6 : decode cX11_strip 6 = .ok (.ifCond .eq 17, 3) := by decide +kernel
theorem dX11_strip_9 : decode cX11_strip 9 = .ok (.iload_n 2, 1) := by decide +kernel
theorem dX11_strip_10 : decode cX11_strip 10 = .ok (.bipush 20, 2) := by decide +kernel
theorem dX11_strip_12 : decode cX11_strip 12 = .ok (.invokestatic 86, 3) := by decide +kernel
theorem dX11_strip_15 : decode cX11_strip 15 = .ok (.ifCond .eq 8, 3) := by decide +kernel
theorem dX11_strip_18 : decode cX11_strip 18 = .ok (.iload_n 2, 1) := by decide +kernel
theorem dX11_strip_19 : decode cX11_strip 19 = .ok (.iload_n 1, 1) := by decide +kernel
theorem dX11_strip_20 : decode cX11_strip 20 = .ok (.if_icmp .gt 6, 3) := by decide +kernel
theorem dX11_strip_23 : decode cX11_strip 23 = .ok (.bipush (-2), 2) := by decide +kernel
theorem dX11_strip_25 : decode cX11_strip 25 = .ok (.ireturn, 1) := by decide +kernel
theorem dX11_strip_26 : decode cX11_strip 26 = .ok (.aload_n 0, 1) := by decide +kernel
theorem dX11_strip_27 : decode cX11_strip 27 = .ok (.bipush 30, 2) := by decide +kernel
theorem dX11_strip_29 : decode cX11_strip 29 = .ok (.iload_n 1, 1) := by decide +kernel
theorem dX11_strip_30 : decode cX11_strip 30 = .ok (.iadd, 1) := by decide +kernel
theorem dX11_strip_31 : decode cX11_strip 31 = .ok (.invokevirtual 148, 3) := by decide +kernel
theorem dX11_strip_34 : decode cX11_strip 34 = .ok (.astore_n 3, 1) := by decide +kernel
theorem dX11_strip_35 : decode cX11_strip 35 = .ok (.aload_n 3, 1) := by decide +kernel
theorem dX11_strip_36 : decode cX11_strip 36 = .ok (.getfield 152, 3) := by decide +kernel
theorem dX11_strip_39 : decode cX11_strip 39 = .ok (.ifCond .eq 6, 3) := by decide +kernel
theorem dX11_strip_42 : decode cX11_strip 42 = .ok (.bipush (-7), 2) := by decide +kernel
theorem dX11_strip_44 : decode cX11_strip 44 = .ok (.ireturn, 1) := by decide +kernel
theorem dX11_strip_45 : decode cX11_strip 45 = .ok (.aload_n 3, 1) := by decide +kernel
theorem dX11_strip_46 : decode cX11_strip 46 = .ok (.invokevirtual 177, 3) := by decide +kernel
theorem dX11_strip_49 : decode cX11_strip 49 = .ok (.aload_n 3, 1) := by decide +kernel
theorem dX11_strip_50 : decode cX11_strip 50 = .ok (.invokevirtual 174, 3) := by decide +kernel
theorem dX11_strip_53 : decode cX11_strip 53 = .ok (.iadd, 1) := by decide +kernel
theorem dX11_strip_54 : decode cX11_strip 54 = .ok (.istore 4, 2) := by decide +kernel
theorem dX11_strip_56 : decode cX11_strip 56 = .ok (.aload_n 0, 1) := by decide +kernel
theorem dX11_strip_57 : decode cX11_strip 57 = .ok (.bipush 30, 2) := by decide +kernel
theorem dX11_strip_59 : decode cX11_strip 59 = .ok (.iload_n 2, 1) := by decide +kernel
theorem dX11_strip_60 : decode cX11_strip 60 = .ok (.iadd, 1) := by decide +kernel
theorem dX11_strip_61 : decode cX11_strip 61 = .ok (.invokevirtual 148, 3) := by decide +kernel
theorem dX11_strip_64 : decode cX11_strip 64 = .ok (.astore_n 3, 1) := by decide +kernel
theorem dX11_strip_65 : decode cX11_strip 65 = .ok (.aload_n 3, 1) := by decide +kernel
theorem dX11_strip_66 : decode cX11_strip 66 = .ok (.getfield 152, 3) := by decide +kernel
theorem dX11_strip_69 : decode cX11_strip 69 = .ok (.ifCond .eq 8, 3) := by decide +kernel
theorem dX11_strip_72 : decode cX11_strip 72 = .ok (.bipush (-7), 2) := by decide +kernel
theorem dX11_strip_74 : decode cX11_strip 74 = .ok (.goto 10, 3) := by decide +kernel
theorem dX11_strip_77 : decode cX11_strip 77 = .ok (.aload_n 3, 1) := by decide +kernel
theorem dX11_strip_78 : decode cX11_strip 78 = .ok (.invokevirtual 177, 3) := by decide +kernel
theorem dX11_strip_81 : decode cX11_strip 81 = .ok (.iload 4, 2) := by decide +kernel
theorem dX11_strip_83 : decode cX11_strip 83 = .ok (.isub, 1) := by decide +kernel
theorem dX11_strip_84 : decode cX11_strip 84 = .ok (.ireturn, 1) := by decide +kernel
theorem dX11_reach_0 : decode cX11_reach 0 = .ok (.aload_n 0, 1) := by decide +kernel
theorem dX11_reach_1 : decode cX11_reach 1 = .ok (.invokevirtual 98, 3) := by decide +kernel
theorem dX11_reach_4 : decode cX11_reach 4 = .ok (.invokestatic 187, 3) := by decide +kernel
theorem dX11_reach_7 : decode cX11_reach 7 = .ok (.istore_n 1, 1) := by decide +kernel
theorem dX11_reach_8 : decode cX11_reach 8 = .ok (.iload_n 1, 1) := by decide +kernel
theorem dX11_reach_9 : decode cX11_reach 9 = .ok (.iconst 1, 1) := by decide +kernel
theorem dX11_reach_10 : decode cX11_reach 10 = .ok (.if_icmp .ge 6, 3) := by decide +kernel
theorem dX11_reach_13 : decode cX11_reach 13 = .ok (.bipush (-2), 2) := by decide +kernel
theorem dX11_reach_15 : decode cX11_reach 15 = .ok (.ireturn, 1) := by decide +kernel
theorem dX11_reach_16 : decode cX11_reach 16 = .ok (.bipush (-21), 2) := by decide +kernel
theorem dX11_reach_18 : decode cX11_reach 18 = .ok (.istore_n 2, 1) := by decide +kernel
theorem dX11_reach_19 : decode cX11_reach 19 = .ok (.bipush 21, 2) := by decide +kernel
theorem dX11_reach_21 : decode cX11_reach 21 = .ok (.istore_n 3, 1) := by decide +kernel
theorem dX11_reach_22 : decode cX11_reach 22 = .ok (.iconst 0, 1) := by decide +kernel
theorem dX11_reach_23 : decode cX11_reach 23 = .ok (.istore 4, 2) := by decide +kernel
theorem dX11_reach_25 : decode cX11_reach 25 = .ok (.iload 4, 2) := by decide +kernel
theorem dX11_reach_27 : decode cX11_reach 27 = .ok (.bipush 40, 2) := by decide +kernel
theorem dX11_reach_29 : decode cX11_reach 29 = .ok (.if_icmp .ge 63, 3) := by decide +kernel
theorem dX11_reach_32 : decode cX11_reach 32 = .ok (.iload_n 3, 1) := by decide +kernel
theorem dX11_reach_33 : decode cX11_reach 33 = .ok (.iload_n 2, 1) := by decide +kernel
theorem dX11_reach_34 : decode cX11_reach 34 = .ok (.isub, 1) := by decide +kernel
theorem dX11_reach_35 : decode cX11_reach 35 = .ok (.iconst 1, 1) := by decide +kernel
theorem dX11_reach_36 : decode cX11_reach 36 = .ok (.if_icmp .le 56, 3) := by decide +kernel
theorem dX11_reach_39 : decode cX11_reach 39 = .ok (.iload_n 2, 1) := by decide +kernel
theorem dX11_reach_40 : decode cX11_reach 40 = .ok (.iload_n 3, 1) := by decide +kernel
theorem dX11_reach_41 : decode cX11_reach 41 = .ok (.iadd, 1) := by decide +kernel
theorem dX11_reach_42 : decode cX11_reach 42 = .ok (.iconst 2, 1) := by decide +kernel
theorem dX11_reach_43 : decode cX11_reach 43 = .ok (.idiv, 1) := by decide +kernel
theorem dX11_reach_44 : decode cX11_reach 44 = .ok (.istore 5, 2) := by decide +kernel
theorem dX11_reach_46 : decode cX11_reach 46 = .ok (.aload_n 0, 1) := by decide +kernel
theorem dX11_reach_47 : decode cX11_reach 47 = .ok (.bipush 30, 2) := by decide +kernel
theorem dX11_reach_49 : decode cX11_reach 49 = .ok (.iload 5, 2) := by decide +kernel
theorem dX11_reach_51 : decode cX11_reach 51 = .ok (.iadd, 1) := by decide +kernel
theorem dX11_reach_52 : decode cX11_reach 52 = .ok (.invokevirtual 148, 3) := by decide +kernel
theorem dX11_reach_55 : decode cX11_reach 55 = .ok (.astore 6, 2) := by decide +kernel
theorem dX11_reach_57 : decode cX11_reach 57 = .ok (.aload 6, 2) := by decide +kernel
theorem dX11_reach_59 : decode cX11_reach 59 = .ok (.getfield 152, 3) := by decide +kernel
theorem dX11_reach_62 : decode cX11_reach 62 = .ok (.ifCond .eq 6, 3) := by decide +kernel
theorem dX11_reach_65 : decode cX11_reach 65 = .ok (.bipush (-7), 2) := by decide +kernel
theorem dX11_reach_67 : decode cX11_reach 67 = .ok (.ireturn, 1) := by decide +kernel
theorem dX11_reach_68 : decode cX11_reach 68 = .ok (.aload 6, 2) := by decide +kernel
theorem dX11_reach_70 : decode cX11_reach 70 = .ok (.invokevirtual 177, 3) := by decide +kernel
theorem dX11_reach_73 : decode cX11_reach 73 = .ok (.iload_n 1, 1) := by decide +kernel
theorem dX11_reach_74 : decode cX11_reach 74 = .ok (.if_icmp .ne 9, 3) := by decide +kernel
theorem dX11_reach_77 : decode cX11_reach 77 = .ok (.iload 5, 2) := by decide +kernel
theorem dX11_reach_79 : decode cX11_reach 79 = .ok (.istore_n 3, 1) := by decide +kernel
theorem dX11_reach_80 : decode cX11_reach 80 = .ok (.goto 6, 3) := by decide +kernel
theorem dX11_reach_83 : decode cX11_reach 83 = .ok (.iload 5, 2) := by decide +kernel
theorem dX11_reach_85 : decode cX11_reach 85 = .ok (.istore_n 2, 1) := by decide +kernel
theorem dX11_reach_86 : decode cX11_reach 86 = .ok (.iinc 4 1, 3) := by decide +kernel
theorem dX11_reach_89 : decode cX11_reach 89 = .ok (.goto (-64), 3) := by decide +kernel
theorem dX11_reach_92 : decode cX11_reach 92 = .ok (.iload_n 3, 1) := by decide +kernel
theorem dX11_reach_93 : decode cX11_reach 93 = .ok (.bipush 20, 2) := by decide +kernel
theorem dX11_reach_95 : decode cX11_reach 95 = .ok (.if_icmp .le 7, 3) := by decide +kernel
theorem dX11_reach_98 : decode cX11_reach 98 = .ok (.iconst (-1), 1) := by decide +kernel
theorem dX11_reach_99 : decode cX11_reach 99 = .ok (.goto 8, 3) := by decide +kernel
theorem dX11_reach_102 : decode cX11_reach 102 = .ok (.iload_n 3, 1) := by decide +kernel
theorem dX11_reach_103 : decode cX11_reach 103 = .ok (.sipush 1000, 3) := by decide +kernel
theorem dX11_reach_106 : decode cX11_reach 106 = .ok (.iadd, 1) := by decide +kernel
theorem dX11_reach_107 : decode cX11_reach 107 = .ok (.ireturn, 1) := by decide +kernel
theorem dX11_steady_0 : decode cX11_steady 0 = .ok (.iload_n 1, 1) := by decide +kernel
theorem dX11_steady_1 : decode cX11_steady 1 = .ok (.invokestatic 193, 3) := by decide +kernel
theorem dX11_steady_4 : decode cX11_steady 4 = .ok (.ifCond .eq 24, 3) := by decide +kernel
theorem dX11_steady_7 : decode cX11_steady 7 = .ok (.iload_n 2, 1) := by decide +kernel
theorem dX11_steady_8 : decode cX11_steady 8 = .ok (.iconst 1, 1) := by decide +kernel
theorem dX11_steady_9 : decode cX11_steady 9 = .ok (.if_icmp .lt 19, 3) := by decide +kernel
theorem dX11_steady_12 : decode cX11_steady 12 = .ok (.iload_n 2, 1) := by decide +kernel
theorem dX11_steady_13 : decode cX11_steady 13 = .ok (.bipush 16, 2) := by decide +kernel
theorem dX11_steady_15 : decode cX11_steady 15 = .ok (.if_icmp .gt 13, 3) := by decide +kernel
theorem dX11_steady_18 : decode cX11_steady 18 = .ok (.iload_n 3, 1) := by decide +kernel
theorem dX11_steady_19 : decode cX11_steady 19 = .ok (.sipush 1600, 3) := by decide +kernel
theorem dX11_steady_22 : decode cX11_steady 22 = .ok (.invokestatic 86, 3) := by decide +kernel
theorem dX11_steady_25 : decode cX11_steady 25 = .ok (.ifCond .ne 6, 3) := by decide +kernel
theorem dX11_steady_28 : decode cX11_steady 28 = .ok (.bipush (-2), 2) := by decide +kernel
theorem dX11_steady_30 : decode cX11_steady 30 = .ok (.ireturn, 1) := by decide +kernel
theorem dX11_steady_31 : decode cX11_steady 31 = .ok (.aload_n 0, 1) := by decide +kernel
theorem dX11_steady_32 : decode cX11_steady 32 = .ok (.getfield 51, 3) := by decide +kernel
theorem dX11_steady_35 : decode cX11_steady 35 = .ok (.aload_n 0, 1) := by decide +kernel
theorem dX11_steady_36 : decode cX11_steady 36 = .ok (.getfield 14, 3) := by decide +kernel
theorem dX11_steady_39 : decode cX11_steady 39 = .ok (.iload_n 1, 1) := by decide +kernel
theorem dX11_steady_40 : decode cX11_steady 40 = .ok (.iload_n 2, 1) := by decide +kernel
theorem dX11_steady_41 : decode cX11_steady 41 = .ok (.iload_n 3, 1) := by decide +kernel
theorem dX11_steady_42 : decode cX11_steady 42 = .ok (.invokevirtual 196, 3) := by decide +kernel
theorem dX11_steady_45 : decode cX11_steady 45 = .ok (.ifCond .eq 7, 3) := by decide +kernel
theorem dX11_steady_48 : decode cX11_steady 48 = .ok (.iconst 1, 1) := by decide +kernel
theorem dX11_steady_49 : decode cX11_steady 49 = .ok (.goto 4, 3) := by decide +kernel
theorem dX11_steady_52 : decode cX11_steady 52 = .ok (.iconst 0, 1) := by decide +kernel
theorem dX11_steady_53 : decode cX11_steady 53 = .ok (.ireturn, 1) := by decide +kernel
theorem dX11_spans_0 : decode cX11_spans 0 = .ok (.iload_n 1, 1) := by decide +kernel
theorem dX11_spans_1 : decode cX11_spans 1 = .ok (.invokestatic 193, 3) := by decide +kernel
theorem dX11_spans_4 : decode cX11_spans 4 = .ok (.ifCond .eq 14, 3) := by decide +kernel
theorem dX11_spans_7 : decode cX11_spans 7 = .ok (.aload_n 0, 1) := by decide +kernel
theorem dX11_spans_8 : decode cX11_spans 8 = .ok (.iload_n 1, 1) := by decide +kernel
theorem dX11_spans_9 : decode cX11_spans 9 = .ok (.invokevirtual 200, 3) := by decide +kernel
theorem dX11_spans_12 : decode cX11_spans 12 = .ok (.getfield 204, 3) := by decide +kernel
theorem dX11_spans_15 : decode cX11_spans 15 = .ok (.goto 5, 3) := by decide +kernel
theorem dX11_spans_18 : decode cX11_spans 18 = .ok (.bipush (-2), 2) := by decide +kernel
theorem dX11_spans_20 : decode cX11_spans 20 = .ok (.ireturn, 1) := by decide +kernel
theorem dX11_span_0 : decode cX11_span 0 = .ok (.iload_n 1, 1) := by decide +kernel
theorem dX11_span_1 : decode cX11_span 1 = .ok (.invokestatic 193, 3) := by decide +kernel
theorem dX11_span_4 : decode cX11_span 4 = .ok (.ifCond .eq 12, 3) := by decide +kernel
theorem dX11_span_7 : decode cX11_span 7 = .ok (.iload_n 3, 1) := by decide +kernel
theorem dX11_span_8 : decode cX11_span 8 = .ok (.ifCond .lt 8, 3) := by decide +kernel
theorem dX11_span_11 : decode cX11_span 11 = .ok (.iload_n 3, 1) := by decide +kernel
theorem dX11_span_12 : decode cX11_span 12 = .ok (.iconst 4, 1) := by decide +kernel
theorem dX11_span_13 : decode cX11_span 13 = .ok (.if_icmp .le 6, 3) := by decide +kernel
theorem dX11_span_16 : decode cX11_span 16 = .ok (.bipush (-2), 2) := by decide +kernel
theorem dX11_span_18 : decode cX11_span 18 = .ok (.ireturn, 1) := by decide +kernel
theorem dX11_span_19 : decode cX11_span 19 = .ok (.aload_n 0, 1) := by decide +kernel
theorem dX11_span_20 : decode cX11_span 20 = .ok (.iload_n 1, 1) := by decide +kernel
theorem dX11_span_21 : decode cX11_span 21 = .ok (.invokevirtual 200, 3) := by decide +kernel
theorem dX11_span_24 : decode cX11_span 24 = .ok (.astore 4, 2) := by decide +kernel
theorem dX11_span_26 : decode cX11_span 26 = .ok (.iload_n 2, 1) := by decide +kernel
theorem dX11_span_27 : decode cX11_span 27 = .ok (.ifCond .lt 12, 3) := by decide +kernel
theorem dX11_span_30 : decode cX11_span 30 = .ok (.iload_n 2, 1) := by decide +kernel
theorem dX11_span_31 : decode cX11_span 31 = .ok (.aload 4, 2) := by decide +kernel
theorem dX11_span_33 : decode cX11_span 33 = .ok (.getfield 204, 3) := by decide +kernel
theorem dX11_span_36 : decode cX11_span 36 = .ok (.if_icmp .lt 5, 3) := by decide +kernel
theorem dX11_span_39 : decode cX11_span 39 = .ok (.iconst (-1), 1) := by decide +kernel
theorem dX11_span_40 : decode cX11_span 40 = .ok (.ireturn, 1) := by decide +kernel
theorem dX11_span_41 : decode cX11_span 41 = .ok (.iload_n 3, 1) := by decide +kernel
theorem dX11_span_42 : decode cX11_span 42 = .ok (.tableswitch 92 0 3 #[30, 42, 54, 73], 30) := by decide +kernel
theorem dX11_span_72 : decode cX11_span 72 = .ok (.aload 4, 2) := by decide +kernel
theorem dX11_span_74 : decode cX11_span 74 = .ok (.getfield 205, 3) := by decide +kernel
theorem dX11_span_77 : decode cX11_span 77 = .ok (.iload_n 2, 1) := by decide +kernel
theorem dX11_span_78 : decode cX11_span 78 = .ok (.iaload, 1) := by decide +kernel
theorem dX11_span_79 : decode cX11_span 79 = .ok (.sipush 1000, 3) := by decide +kernel
theorem dX11_span_82 : decode cX11_span 82 = .ok (.iadd, 1) := by decide +kernel
theorem dX11_span_83 : decode cX11_span 83 = .ok (.ireturn, 1) := by decide +kernel
theorem dX11_span_84 : decode cX11_span 84 = .ok (.aload 4, 2) := by decide +kernel
theorem dX11_span_86 : decode cX11_span 86 = .ok (.getfield 209, 3) := by decide +kernel
theorem dX11_span_89 : decode cX11_span 89 = .ok (.iload_n 2, 1) := by decide +kernel
theorem dX11_span_90 : decode cX11_span 90 = .ok (.iaload, 1) := by decide +kernel
theorem dX11_span_91 : decode cX11_span 91 = .ok (.sipush 1000, 3) := by decide +kernel
theorem dX11_span_94 : decode cX11_span 94 = .ok (.iadd, 1) := by decide +kernel
theorem dX11_span_95 : decode cX11_span 95 = .ok (.ireturn, 1) := by decide +kernel
theorem dX11_span_96 : decode cX11_span 96 = .ok (.aload 4, 2) := by decide +kernel
theorem dX11_span_98 : decode cX11_span 98 = .ok (.iload_n 2, 1) := by decide +kernel
theorem dX11_span_99 : decode cX11_span 99 = .ok (.aload_n 0, 1) := by decide +kernel
theorem dX11_span_100 : decode cX11_span 100 = .ok (.getfield 14, 3) := by decide +kernel
theorem dX11_span_103 : decode cX11_span 103 = .ok (.aload_n 0, 1) := by decide +kernel
theorem dX11_span_104 : decode cX11_span 104 = .ok (.getfield 51, 3) := by decide +kernel
theorem dX11_span_107 : decode cX11_span 107 = .ok (.invokevirtual 212, 3) := by decide +kernel
theorem dX11_span_110 : decode cX11_span 110 = .ok (.sipush 10000, 3) := by decide +kernel
theorem dX11_span_113 : decode cX11_span 113 = .ok (.iadd, 1) := by decide +kernel
theorem dX11_span_114 : decode cX11_span 114 = .ok (.ireturn, 1) := by decide +kernel
theorem dX11_span_115 : decode cX11_span 115 = .ok (.aload 4, 2) := by decide +kernel
theorem dX11_span_117 : decode cX11_span 117 = .ok (.iload_n 2, 1) := by decide +kernel
theorem dX11_span_118 : decode cX11_span 118 = .ok (.aload_n 0, 1) := by decide +kernel
theorem dX11_span_119 : decode cX11_span 119 = .ok (.getfield 14, 3) := by decide +kernel
theorem dX11_span_122 : decode cX11_span 122 = .ok (.aload_n 0, 1) := by decide +kernel
theorem dX11_span_123 : decode cX11_span 123 = .ok (.getfield 51, 3) := by decide +kernel
theorem dX11_span_126 : decode cX11_span 126 = .ok (.invokevirtual 216, 3) := by decide +kernel
theorem dX11_span_129 : decode cX11_span 129 = .ok (.sipush 10000, 3) := by decide +kernel
theorem dX11_span_132 : decode cX11_span 132 = .ok (.iadd, 1) := by decide +kernel
theorem dX11_span_133 : decode cX11_span 133 = .ok (.ireturn, 1) := by decide +kernel
theorem dX11_span_134 : decode cX11_span 134 = .ok (.aload 4, 2) := by decide +kernel
theorem dX11_span_136 : decode cX11_span 136 = .ok (.getfield 209, 3) := by decide +kernel
theorem dX11_span_139 : decode cX11_span 139 = .ok (.iload_n 2, 1) := by decide +kernel
theorem dX11_span_140 : decode cX11_span 140 = .ok (.iaload, 1) := by decide +kernel
theorem dX11_span_141 : decode cX11_span 141 = .ok (.aload 4, 2) := by decide +kernel
theorem dX11_span_143 : decode cX11_span 143 = .ok (.getfield 205, 3) := by decide +kernel
theorem dX11_span_146 : decode cX11_span 146 = .ok (.iload_n 2, 1) := by decide +kernel
theorem dX11_span_147 : decode cX11_span 147 = .ok (.iaload, 1) := by decide +kernel
theorem dX11_span_148 : decode cX11_span 148 = .ok (.isub, 1) := by decide +kernel
theorem dX11_span_149 : decode cX11_span 149 = .ok (.iconst 1, 1) := by decide +kernel
theorem dX11_span_150 : decode cX11_span 150 = .ok (.iadd, 1) := by decide +kernel
theorem dX11_span_151 : decode cX11_span 151 = .ok (.ireturn, 1) := by decide +kernel
theorem dX11_nearest_0 : decode cX11_nearest 0 = .ok (.iload_n 1, 1) := by decide +kernel
theorem dX11_nearest_1 : decode cX11_nearest 1 = .ok (.invokestatic 193, 3) := by decide +kernel
theorem dX11_nearest_4 : decode cX11_nearest 4 = .ok (.ifCond .eq 12, 3) := by decide +kernel
theorem dX11_nearest_7 : decode cX11_nearest 7 = .ok (.iload_n 2, 1) := by decide +kernel
theorem dX11_nearest_8 : decode cX11_nearest 8 = .ok (.bipush 100, 2) := by decide +kernel
theorem dX11_nearest_10 : decode cX11_nearest 10 = .ok (.invokestatic 86, 3) := by decide +kernel
theorem dX11_nearest_13 : decode cX11_nearest 13 = .ok (.ifCond .ne 6, 3) := by decide +kernel
theorem dX11_nearest_16 : decode cX11_nearest 16 = .ok (.bipush (-2), 2) := by decide +kernel
theorem dX11_nearest_18 : decode cX11_nearest 18 = .ok (.ireturn, 1) := by decide +kernel
theorem dX11_nearest_19 : decode cX11_nearest 19 = .ok (.aload_n 0, 1) := by decide +kernel
theorem dX11_nearest_20 : decode cX11_nearest 20 = .ok (.iload_n 1, 1) := by decide +kernel
theorem dX11_nearest_21 : decode cX11_nearest 21 = .ok (.invokevirtual 200, 3) := by decide +kernel
theorem dX11_nearest_24 : decode cX11_nearest 24 = .ok (.iload_n 2, 1) := by decide +kernel
theorem dX11_nearest_25 : decode cX11_nearest 25 = .ok (.invokevirtual 219, 3) := by decide +kernel
theorem dX11_nearest_28 : decode cX11_nearest 28 = .ok (.ireturn, 1) := by decide +kernel
theorem dX11_links_0 : decode cX11_links 0 = .ok (.aload_n 0, 1) := by decide +kernel
theorem dX11_links_1 : decode cX11_links 1 = .ok (.getfield 44, 3) := by decide +kernel
theorem dX11_links_4 : decode cX11_links 4 = .ok (.aload_n 0, 1) := by decide +kernel
theorem dX11_links_5 : decode cX11_links 5 = .ok (.invokevirtual 98, 3) := by decide +kernel
theorem dX11_links_8 : decode cX11_links 8 = .ok (.invokevirtual 222, 3) := by decide +kernel
theorem dX11_links_11 : decode cX11_links 11 = .ok (.ifCond .ne 6, 3) := by decide +kernel
theorem dX11_links_14 : decode cX11_links 14 = .ok (.bipush (-2), 2) := by decide +kernel
theorem dX11_links_16 : decode cX11_links 16 = .ok (.ireturn, 1) := by decide +kernel
theorem dX11_links_17 : decode cX11_links 17 = .ok (.aload_n 0, 1) := by decide +kernel
theorem dX11_links_18 : decode cX11_links 18 = .ok (.getfield 44, 3) := by decide +kernel
theorem dX11_links_21 : decode cX11_links 21 = .ok (.getfield 226, 3) := by decide +kernel
theorem dX11_links_24 : decode cX11_links 24 = .ok (.ifCond .eq 8, 3) := by decide +kernel
theorem dX11_links_27 : decode cX11_links 27 = .ok (.bipush (-7), 2) := by decide +kernel
theorem dX11_links_29 : decode cX11_links 29 = .ok (.goto 10, 3) := by decide +kernel
theorem dX11_links_32 : decode cX11_links 32 = .ok (.aload_n 0, 1) := by decide +kernel
theorem dX11_links_33 : decode cX11_links 33 = .ok (.getfield 44, 3) := by decide +kernel
theorem dX11_links_36 : decode cX11_links 36 = .ok (.getfield 227, 3) := by decide +kernel
theorem dX11_links_39 : decode cX11_links 39 = .ok (.ireturn, 1) := by decide +kernel
theorem dX11_link_0 : decode cX11_link 0 = .ok (.aload_n 0, 1) := by decide +kernel
theorem dX11_link_1 : decode cX11_link 1 = .ok (.getfield 44, 3) := by decide +kernel
theorem dX11_link_4 : decode cX11_link 4 = .ok (.aload_n 0, 1) := by decide +kernel
theorem dX11_link_5 : decode cX11_link 5 = .ok (.invokevirtual 98, 3) := by decide +kernel
theorem dX11_link_8 : decode cX11_link 8 = .ok (.invokevirtual 222, 3) := by decide +kernel
theorem dX11_link_11 : decode cX11_link 11 = .ok (.ifCond .eq 13, 3) := by decide +kernel
theorem dX11_link_14 : decode cX11_link 14 = .ok (.aload_n 0, 1) := by decide +kernel
theorem dX11_link_15 : decode cX11_link 15 = .ok (.getfield 44, 3) := by decide +kernel
theorem dX11_link_18 : decode cX11_link 18 = .ok (.getfield 226, 3) := by decide +kernel
theorem dX11_link_21 : decode cX11_link 21 = .ok (.ifCond .eq 7, 3) := by decide +kernel
theorem dX11_link_24 : decode cX11_link 24 = .ok (.ldc2_w 90, 3) := by decide +kernel
theorem dX11_link_27 : decode cX11_link 27 = .ok (.lreturn, 1) := by decide +kernel
theorem dX11_link_28 : decode cX11_link 28 = .ok (.iload_n 1, 1) := by decide +kernel
theorem dX11_link_29 : decode cX11_link 29 = .ok (.ifCond .lt 21, 3) := by decide +kernel
theorem dX11_link_32 : decode cX11_link 32 = .ok (.iload_n 1, 1) := by decide +kernel
theorem dX11_link_33 : decode cX11_link 33 = .ok (.aload_n 0, 1) := by decide +kernel
theorem dX11_link_34 : decode cX11_link 34 = .ok (.getfield 44, 3) := by decide +kernel
theorem dX11_link_37 : decode cX11_link 37 = .ok (.getfield 227, 3) := by decide +kernel
theorem dX11_link_40 : decode cX11_link 40 = .ok (.if_icmp .ge 10, 3) := by decide +kernel
theorem dX11_link_43 : decode cX11_link 43 = .ok (.iload_n 2, 1) := by decide +kernel
theorem dX11_link_44 : decode cX11_link 44 = .ok (.invokestatic 82, 3) := by decide +kernel
theorem dX11_link_47 : decode cX11_link 47 = .ok (.ifCond .ne 7, 3) := by decide +kernel
theorem dX11_link_50 : decode cX11_link 50 = .ok (.ldc2_w 90, 3) := by decide +kernel
theorem dX11_link_53 : decode cX11_link 53 = .ok (.lreturn, 1) := by decide +kernel
theorem dX11_link_54 : decode cX11_link 54 = .ok (.aload_n 0, 1) := by decide +kernel
theorem dX11_link_55 : decode cX11_link 55 = .ok (.getfield 44, 3) := by decide +kernel
theorem dX11_link_58 : decode cX11_link 58 = .ok (.iload_n 1, 1) := by decide +kernel
theorem dX11_link_59 : decode cX11_link 59 = .ok (.iload_n 2, 1) := by decide +kernel
theorem dX11_link_60 : decode cX11_link 60 = .ok (.invokevirtual 228, 3) := by decide +kernel
theorem dX11_link_63 : decode cX11_link 63 = .ok (.lreturn, 1) := by decide +kernel
theorem dX11_chain_0 : decode cX11_chain 0 = .ok (.iload_n 1, 1) := by decide +kernel
theorem dX11_chain_1 : decode cX11_chain 1 = .ok (.bipush 20, 2) := by decide +kernel
theorem dX11_chain_3 : decode cX11_chain 3 = .ok (.invokestatic 86, 3) := by decide +kernel
theorem dX11_chain_6 : decode cX11_chain 6 = .ok (.ifCond .eq 17, 3) := by decide +kernel
theorem dX11_chain_9 : decode cX11_chain 9 = .ok (.aload_n 0, 1) := by decide +kernel
theorem dX11_chain_10 : decode cX11_chain 10 = .ok (.getfield 44, 3) := by decide +kernel
theorem dX11_chain_13 : decode cX11_chain 13 = .ok (.aload_n 0, 1) := by decide +kernel
theorem dX11_chain_14 : decode cX11_chain 14 = .ok (.invokevirtual 98, 3) := by decide +kernel
theorem dX11_chain_17 : decode cX11_chain 17 = .ok (.invokevirtual 222, 3) := by decide +kernel
theorem dX11_chain_20 : decode cX11_chain 20 = .ok (.ifCond .ne 6, 3) := by decide +kernel
theorem dX11_chain_23 : decode cX11_chain 23 = .ok (.bipush (-2), 2) := by decide +kernel
theorem dX11_chain_25 : decode cX11_chain 25 = .ok (.ireturn, 1) := by decide +kernel
theorem dX11_chain_26 : decode cX11_chain 26 = .ok (.aload_n 0, 1) := by decide +kernel
theorem dX11_chain_27 : decode cX11_chain 27 = .ok (.getfield 44, 3) := by decide +kernel
theorem dX11_chain_30 : decode cX11_chain 30 = .ok (.iload_n 1, 1) := by decide +kernel
theorem dX11_chain_31 : decode cX11_chain 31 = .ok (.invokevirtual 231, 3) := by decide +kernel
theorem dX11_chain_34 : decode cX11_chain 34 = .ok (.ireturn, 1) := by decide +kernel
theorem dX11_real_0 : decode cX11_real 0 = .ok (.iload_n 1, 1) := by decide +kernel
theorem dX11_real_1 : decode cX11_real 1 = .ok (.bipush 20, 2) := by decide +kernel
theorem dX11_real_3 : decode cX11_real 3 = .ok (.invokestatic 86, 3) := by decide +kernel
theorem dX11_real_6 : decode cX11_real 6 = .ok (.ifCond .eq 17, 3) := by decide +kernel
theorem dX11_real_9 : decode cX11_real 9 = .ok (.iload_n 2, 1) := by decide +kernel
theorem dX11_real_10 : decode cX11_real 10 = .ok (.bipush 20, 2) := by decide +kernel
theorem dX11_real_12 : decode cX11_real 12 = .ok (.invokestatic 86, 3) := by decide +kernel
theorem dX11_real_15 : decode cX11_real 15 = .ok (.ifCond .eq 8, 3) := by decide +kernel
theorem dX11_real_18 : decode cX11_real 18 = .ok (.iload_n 2, 1) := by decide +kernel
theorem dX11_real_19 : decode cX11_real 19 = .ok (.iload_n 1, 1) := by decide +kernel
theorem dX11_real_20 : decode cX11_real 20 = .ok (.if_icmp .gt 6, 3) := by decide +kernel
theorem dX11_real_23 : decode cX11_real 23 = .ok (.bipush (-2), 2) := by decide +kernel
theorem dX11_real_25 : decode cX11_real 25 = .ok (.ireturn, 1) := by decide +kernel
theorem dX11_real_26 : decode cX11_real 26 = .ok (.aload_n 0, 1) := by decide +kernel
theorem dX11_real_27 : decode cX11_real 27 = .ok (.getfield 44, 3) := by decide +kernel
theorem dX11_real_30 : decode cX11_real 30 = .ok (.aload_n 0, 1) := by decide +kernel
theorem dX11_real_31 : decode cX11_real 31 = .ok (.invokevirtual 98, 3) := by decide +kernel
theorem dX11_real_34 : decode cX11_real 34 = .ok (.invokevirtual 222, 3) := by decide +kernel
theorem dX11_real_37 : decode cX11_real 37 = .ok (.ifCond .ne 6, 3) := by decide +kernel
theorem dX11_real_40 : decode cX11_real 40 = .ok (.bipush (-2), 2) := by decide +kernel
theorem dX11_real_42 : decode cX11_real 42 = .ok (.ireturn, 1) := by decide +kernel
theorem dX11_real_43 : decode cX11_real 43 = .ok (.aload_n 0, 1) := by decide +kernel
theorem dX11_real_44 : decode cX11_real 44 = .ok (.getfield 44, 3) := by decide +kernel
theorem dX11_real_47 : decode cX11_real 47 = .ok (.iload_n 1, 1) := by decide +kernel
theorem dX11_real_48 : decode cX11_real 48 = .ok (.invokevirtual 231, 3) := by decide +kernel
theorem dX11_real_51 : decode cX11_real 51 = .ok (.istore_n 3, 1) := by decide +kernel
theorem dX11_real_52 : decode cX11_real 52 = .ok (.aload_n 0, 1) := by decide +kernel
theorem dX11_real_53 : decode cX11_real 53 = .ok (.getfield 44, 3) := by decide +kernel
theorem dX11_real_56 : decode cX11_real 56 = .ok (.iload_n 2, 1) := by decide +kernel
theorem dX11_real_57 : decode cX11_real 57 = .ok (.invokevirtual 231, 3) := by decide +kernel
theorem dX11_real_60 : decode cX11_real 60 = .ok (.istore 4, 2) := by decide +kernel
theorem dX11_real_62 : decode cX11_real 62 = .ok (.iload_n 3, 1) := by decide +kernel
theorem dX11_real_63 : decode cX11_real 63 = .ok (.bipush (-7), 2) := by decide +kernel
theorem dX11_real_65 : decode cX11_real 65 = .ok (.if_icmp .eq 10, 3) := by decide +kernel
theorem dX11_real_68 : decode cX11_real 68 = .ok (.iload 4, 2) := by decide +kernel
theorem dX11_real_70 : decode cX11_real 70 = .ok (.bipush (-7), 2) := by decide +kernel
theorem dX11_real_72 : decode cX11_real 72 = .ok (.if_icmp .ne 8, 3) := by decide +kernel
theorem dX11_real_75 : decode cX11_real 75 = .ok (.bipush (-7), 2) := by decide +kernel
theorem dX11_real_77 : decode cX11_real 77 = .ok (.goto 10, 3) := by decide +kernel
theorem dX11_real_80 : decode cX11_real 80 = .ok (.iload_n 3, 1) := by decide +kernel
theorem dX11_real_81 : decode cX11_real 81 = .ok (.iload 4, 2) := by decide +kernel
theorem dX11_real_83 : decode cX11_real 83 = .ok (.isub, 1) := by decide +kernel
theorem dX11_real_84 : decode cX11_real 84 = .ok (.bipush 100, 2) := by decide +kernel
theorem dX11_real_86 : decode cX11_real 86 = .ok (.iadd, 1) := by decide +kernel
theorem dX11_real_87 : decode cX11_real 87 = .ok (.ireturn, 1) := by decide +kernel
theorem dX11_await_0 : decode cX11_await 0 = .ok (.iload_n 1, 1) := by decide +kernel
theorem dX11_await_1 : decode cX11_await 1 = .ok (.bipush 100, 2) := by decide +kernel
theorem dX11_await_3 : decode cX11_await 3 = .ok (.invokestatic 86, 3) := by decide +kernel
theorem dX11_await_6 : decode cX11_await 6 = .ok (.ifCond .ne 6, 3) := by decide +kernel
theorem dX11_await_9 : decode cX11_await 9 = .ok (.bipush (-2), 2) := by decide +kernel
theorem dX11_await_11 : decode cX11_await 11 = .ok (.ireturn, 1) := by decide +kernel
theorem dX11_await_12 : decode cX11_await 12 = .ok (.aload_n 0, 1) := by decide +kernel
theorem dX11_await_13 : decode cX11_await 13 = .ok (.getfield 14, 3) := by decide +kernel
theorem dX11_await_16 : decode cX11_await 16 = .ok (.getfield 234, 3) := by decide +kernel
theorem dX11_await_19 : decode cX11_await 19 = .ok (.bipush 16, 2) := by decide +kernel
theorem dX11_await_21 : decode cX11_await 21 = .ok (.if_icmp .lt 6, 3) := by decide +kernel
theorem dX11_await_24 : decode cX11_await 24 = .ok (.bipush (-4), 2) := by decide +kernel
theorem dX11_await_26 : decode cX11_await 26 = .ok (.ireturn, 1) := by decide +kernel
theorem dX11_await_27 : decode cX11_await 27 = .ok (.aload_n 0, 1) := by decide +kernel
theorem dX11_await_28 : decode cX11_await 28 = .ok (.getfield 14, 3) := by decide +kernel
theorem dX11_await_31 : decode cX11_await 31 = .ok (.getfield 237, 3) := by decide +kernel
theorem dX11_await_34 : decode cX11_await 34 = .ok (.aload_n 0, 1) := by decide +kernel
theorem dX11_await_35 : decode cX11_await 35 = .ok (.getfield 14, 3) := by decide +kernel
theorem dX11_await_38 : decode cX11_await 38 = .ok (.getfield 234, 3) := by decide +kernel
theorem dX11_await_41 : decode cX11_await 41 = .ok (.iload_n 1, 1) := by decide +kernel
theorem dX11_await_42 : decode cX11_await 42 = .ok (.iastore, 1) := by decide +kernel
theorem dX11_await_43 : decode cX11_await 43 = .ok (.aload_n 0, 1) := by decide +kernel
theorem dX11_await_44 : decode cX11_await 44 = .ok (.getfield 14, 3) := by decide +kernel
theorem dX11_await_47 : decode cX11_await 47 = .ok (.dup, 1) := by decide +kernel
theorem dX11_await_48 : decode cX11_await 48 = .ok (.getfield 234, 3) := by decide +kernel
theorem dX11_await_51 : decode cX11_await 51 = .ok (.iconst 1, 1) := by decide +kernel
theorem dX11_await_52 : decode cX11_await 52 = .ok (.iadd, 1) := by decide +kernel
theorem dX11_await_53 : decode cX11_await 53 = .ok (.putfield 234, 3) := by decide +kernel
theorem dX11_await_56 : decode cX11_await 56 = .ok (.aload_n 0, 1) := by decide +kernel
theorem dX11_await_57 : decode cX11_await 57 = .ok (.getfield 14, 3) := by decide +kernel
theorem dX11_await_60 : decode cX11_await 60 = .ok (.getfield 234, 3) := by decide +kernel
theorem dX11_await_63 : decode cX11_await 63 = .ok (.ireturn, 1) := by decide +kernel
theorem dX11_next_0 : decode cX11_next 0 = .ok (.aload_n 0, 1) := by decide +kernel
theorem dX11_next_1 : decode cX11_next 1 = .ok (.getfield 14, 3) := by decide +kernel
theorem dX11_next_4 : decode cX11_next 4 = .ok (.getfield 234, 3) := by decide +kernel
theorem dX11_next_7 : decode cX11_next 7 = .ok (.ifCond .ne 6, 3) := by decide +kernel
theorem dX11_next_10 : decode cX11_next 10 = .ok (.bipush (-3), 2) := by decide +kernel
theorem dX11_next_12 : decode cX11_next 12 = .ok (.ireturn, 1) := by decide +kernel
theorem dX11_next_13 : decode cX11_next 13 = .ok (.aload_n 0, 1) := by decide +kernel
theorem dX11_next_14 : decode cX11_next 14 = .ok (.getfield 14, 3) := by decide +kernel
theorem dX11_next_17 : decode cX11_next 17 = .ok (.aload_n 0, 1) := by decide +kernel
theorem dX11_next_18 : decode cX11_next 18 = .ok (.getfield 14, 3) := by decide +kernel
theorem dX11_next_21 : decode cX11_next 21 = .ok (.getfield 237, 3) := by decide +kernel
theorem dX11_next_24 : decode cX11_next 24 = .ok (.iconst 0, 1) := by decide +kernel
theorem dX11_next_25 : decode cX11_next 25 = .ok (.iaload, 1) := by decide +kernel
theorem dX11_next_26 : decode cX11_next 26 = .ok (.putfield 102, 3) := by decide +kernel
theorem dX11_next_29 : decode cX11_next 29 = .ok (.aload_n 0, 1) := by decide +kernel
theorem dX11_next_30 : decode cX11_next 30 = .ok (.getfield 14, 3) := by decide +kernel
theorem dX11_next_33 : decode cX11_next 33 = .ok (.invokevirtual 240, 3) := by decide +kernel
theorem dX11_next_36 : decode cX11_next 36 = .ok (.aload_n 0, 1) := by decide +kernel
theorem dX11_next_37 : decode cX11_next 37 = .ok (.getfield 14, 3) := by decide +kernel
theorem dX11_next_40 : decode cX11_next 40 = .ok (.dup, 1) := by decide +kernel
theorem dX11_next_41 : decode cX11_next 41 = .ok (.getfield 234, 3) := by decide +kernel
theorem dX11_next_44 : decode cX11_next 44 = .ok (.iconst 1, 1) := by decide +kernel
theorem dX11_next_45 : decode cX11_next 45 = .ok (.isub, 1) := by decide +kernel
theorem dX11_next_46 : decode cX11_next 46 = .ok (.putfield 234, 3) := by decide +kernel
theorem dX11_next_49 : decode cX11_next 49 = .ok (.aload_n 0, 1) := by decide +kernel
theorem dX11_next_50 : decode cX11_next 50 = .ok (.getfield 14, 3) := by decide +kernel
theorem dX11_next_53 : decode cX11_next 53 = .ok (.getfield 234, 3) := by decide +kernel
theorem dX11_next_56 : decode cX11_next 56 = .ok (.ireturn, 1) := by decide +kernel
theorem dX11_waiting_0 : decode cX11_waiting 0 = .ok (.iload_n 1, 1) := by decide +kernel
theorem dX11_waiting_1 : decode cX11_waiting 1 = .ok (.ifCond .lt 14, 3) := by decide +kernel
theorem dX11_waiting_4 : decode cX11_waiting 4 = .ok (.iload_n 1, 1) := by decide +kernel
theorem dX11_waiting_5 : decode cX11_waiting 5 = .ok (.aload_n 0, 1) := by decide +kernel
theorem dX11_waiting_6 : decode cX11_waiting 6 = .ok (.getfield 14, 3) := by decide +kernel
theorem dX11_waiting_9 : decode cX11_waiting 9 = .ok (.getfield 234, 3) := by decide +kernel
theorem dX11_waiting_12 : decode cX11_waiting 12 = .ok (.if_icmp .lt 7, 3) := by decide +kernel
theorem dX11_waiting_15 : decode cX11_waiting 15 = .ok (.iconst (-1), 1) := by decide +kernel
theorem dX11_waiting_16 : decode cX11_waiting 16 = .ok (.goto 16, 3) := by decide +kernel
theorem dX11_waiting_19 : decode cX11_waiting 19 = .ok (.aload_n 0, 1) := by decide +kernel
theorem dX11_waiting_20 : decode cX11_waiting 20 = .ok (.getfield 14, 3) := by decide +kernel
theorem dX11_waiting_23 : decode cX11_waiting 23 = .ok (.getfield 237, 3) := by decide +kernel
theorem dX11_waiting_26 : decode cX11_waiting 26 = .ok (.iload_n 1, 1) := by decide +kernel
theorem dX11_waiting_27 : decode cX11_waiting 27 = .ok (.iaload, 1) := by decide +kernel
theorem dX11_waiting_28 : decode cX11_waiting 28 = .ok (.sipush 1000, 3) := by decide +kernel
theorem dX11_waiting_31 : decode cX11_waiting 31 = .ok (.iadd, 1) := by decide +kernel
theorem dX11_waiting_32 : decode cX11_waiting 32 = .ok (.ireturn, 1) := by decide +kernel
theorem dX11_weed_0 : decode cX11_weed 0 = .ok (.iload_n 1, 1) := by decide +kernel
theorem dX11_weed_1 : decode cX11_weed 1 = .ok (.invokestatic 193, 3) := by decide +kernel
theorem dX11_weed_4 : decode cX11_weed 4 = .ok (.ifCond .eq 12, 3) := by decide +kernel
theorem dX11_weed_7 : decode cX11_weed 7 = .ok (.iload_n 2, 1) := by decide +kernel
theorem dX11_weed_8 : decode cX11_weed 8 = .ok (.ifCond .lt 8, 3) := by decide +kernel
theorem dX11_weed_11 : decode cX11_weed 11 = .ok (.iload_n 2, 1) := by decide +kernel
theorem dX11_weed_12 : decode cX11_weed 12 = .ok (.iconst 2, 1) := by decide +kernel
theorem dX11_weed_13 : decode cX11_weed 13 = .ok (.if_icmp .le 6, 3) := by decide +kernel
theorem dX11_weed_16 : decode cX11_weed 16 = .ok (.bipush (-2), 2) := by decide +kernel
theorem dX11_weed_18 : decode cX11_weed 18 = .ok (.ireturn, 1) := by decide +kernel
theorem dX11_weed_19 : decode cX11_weed 19 = .ok (.aload_n 0, 1) := by decide +kernel
theorem dX11_weed_20 : decode cX11_weed 20 = .ok (.getfield 14, 3) := by decide +kernel
theorem dX11_weed_23 : decode cX11_weed 23 = .ok (.getfield 234, 3) := by decide +kernel
theorem dX11_weed_26 : decode cX11_weed 26 = .ok (.istore_n 3, 1) := by decide +kernel
theorem dX11_weed_27 : decode cX11_weed 27 = .ok (.iconst 0, 1) := by decide +kernel
theorem dX11_weed_28 : decode cX11_weed 28 = .ok (.istore 4, 2) := by decide +kernel
theorem dX11_weed_30 : decode cX11_weed 30 = .ok (.iconst 0, 1) := by decide +kernel
theorem dX11_weed_31 : decode cX11_weed 31 = .ok (.istore 5, 2) := by decide +kernel
theorem dX11_weed_33 : decode cX11_weed 33 = .ok (.iload 5, 2) := by decide +kernel
theorem dX11_weed_35 : decode cX11_weed 35 = .ok (.iload_n 3, 1) := by decide +kernel
theorem dX11_weed_36 : decode cX11_weed 36 = .ok (.if_icmp .ge 95, 3) := by decide +kernel
theorem dX11_weed_39 : decode cX11_weed 39 = .ok (.aload_n 0, 1) := by decide +kernel
theorem dX11_weed_40 : decode cX11_weed 40 = .ok (.getfield 14, 3) := by decide +kernel
theorem dX11_weed_43 : decode cX11_weed 43 = .ok (.getfield 237, 3) := by decide +kernel
theorem dX11_weed_46 : decode cX11_weed 46 = .ok (.iload 5, 2) := by decide +kernel
theorem dX11_weed_48 : decode cX11_weed 48 = .ok (.iaload, 1) := by decide +kernel
theorem dX11_weed_49 : decode cX11_weed 49 = .ok (.istore 6, 2) := by decide +kernel
theorem dX11_weed_51 : decode cX11_weed 51 = .ok (.iload_n 2, 1) := by decide +kernel
theorem dX11_weed_52 : decode cX11_weed 52 = .ok (.iconst 2, 1) := by decide +kernel
theorem dX11_weed_53 : decode cX11_weed 53 = .ok (.if_icmp .ne 17, 3) := by decide +kernel
theorem dX11_weed_56 : decode cX11_weed 56 = .ok (.aload_n 0, 1) := by decide +kernel
theorem dX11_weed_57 : decode cX11_weed 57 = .ok (.getfield 14, 3) := by decide +kernel
theorem dX11_weed_60 : decode cX11_weed 60 = .ok (.iload 6, 2) := by decide +kernel
theorem dX11_weed_62 : decode cX11_weed 62 = .ok (.iload 4, 2) := by decide +kernel
theorem dX11_weed_64 : decode cX11_weed 64 = .ok (.invokevirtual 243, 3) := by decide +kernel
theorem dX11_weed_67 : decode cX11_weed 67 = .ok (.goto 36, 3) := by decide +kernel
theorem dX11_weed_70 : decode cX11_weed 70 = .ok (.aload_n 0, 1) := by decide +kernel
theorem dX11_weed_71 : decode cX11_weed 71 = .ok (.getfield 51, 3) := by decide +kernel
theorem dX11_weed_74 : decode cX11_weed 74 = .ok (.aload_n 0, 1) := by decide +kernel
theorem dX11_weed_75 : decode cX11_weed 75 = .ok (.getfield 14, 3) := by decide +kernel
theorem dX11_weed_78 : decode cX11_weed 78 = .ok (.iload_n 1, 1) := by decide +kernel
theorem dX11_weed_79 : decode cX11_weed 79 = .ok (.iconst 1, 1) := by decide +kernel
theorem dX11_weed_80 : decode cX11_weed 80 = .ok (.iload 6, 2) := by decide +kernel
theorem dX11_weed_82 : decode cX11_weed 82 = .ok (.invokevirtual 196, 3) := by decide +kernel
theorem dX11_weed_85 : decode cX11_weed 85 = .ok (.iload_n 2, 1) := by decide +kernel
theorem dX11_weed_86 : decode cX11_weed 86 = .ok (.iconst 1, 1) := by decide +kernel
theorem dX11_weed_87 : decode cX11_weed 87 = .ok (.if_icmp .ne 7, 3) := by decide +kernel
theorem dX11_weed_90 : decode cX11_weed 90 = .ok (.iconst 1, 1) := by decide +kernel
theorem dX11_weed_91 : decode cX11_weed 91 = .ok (.goto 4, 3) := by decide +kernel
theorem dX11_weed_94 : decode cX11_weed 94 = .ok (.iconst 0, 1) := by decide +kernel
theorem dX11_weed_95 : decode cX11_weed 95 = .ok (.if_icmp .ne 7, 3) := by decide +kernel
theorem dX11_weed_98 : decode cX11_weed 98 = .ok (.iconst 1, 1) := by decide +kernel
theorem dX11_weed_99 : decode cX11_weed 99 = .ok (.goto 4, 3) := by decide +kernel
theorem dX11_weed_102 : decode cX11_weed 102 = .ok (.iconst 0, 1) := by decide +kernel
theorem dX11_weed_103 : decode cX11_weed 103 = .ok (.istore 7, 2) := by decide +kernel
theorem dX11_weed_105 : decode cX11_weed 105 = .ok (.iload 7, 2) := by decide +kernel
theorem dX11_weed_107 : decode cX11_weed 107 = .ok (.ifCond .ne 18, 3) := by decide +kernel
theorem dX11_weed_110 : decode cX11_weed 110 = .ok (.aload_n 0, 1) := by decide +kernel
theorem dX11_weed_111 : decode cX11_weed 111 = .ok (.getfield 14, 3) := by decide +kernel
theorem dX11_weed_114 : decode cX11_weed 114 = .ok (.getfield 237, 3) := by decide +kernel
theorem dX11_weed_117 : decode cX11_weed 117 = .ok (.iload 4, 2) := by decide +kernel
theorem dX11_weed_119 : decode cX11_weed 119 = .ok (.iload 6, 2) := by decide +kernel
theorem dX11_weed_121 : decode cX11_weed 121 = .ok (.iastore, 1) := by decide +kernel
theorem dX11_weed_122 : decode cX11_weed 122 = .ok (.iinc 4 1, 3) := by decide +kernel
theorem dX11_weed_125 : decode cX11_weed 125 = .ok (.iinc 5 1, 3) := by decide +kernel
theorem dX11_weed_128 : decode cX11_weed 128 = .ok (.goto (-95), 3) := by decide +kernel
theorem dX11_weed_131 : decode cX11_weed 131 = .ok (.aload_n 0, 1) := by decide +kernel
theorem dX11_weed_132 : decode cX11_weed 132 = .ok (.getfield 14, 3) := by decide +kernel
theorem dX11_weed_135 : decode cX11_weed 135 = .ok (.iload 4, 2) := by decide +kernel
theorem dX11_weed_137 : decode cX11_weed 137 = .ok (.putfield 234, 3) := by decide +kernel
theorem dX11_weed_140 : decode cX11_weed 140 = .ok (.iload_n 3, 1) := by decide +kernel
theorem dX11_weed_141 : decode cX11_weed 141 = .ok (.iload 4, 2) := by decide +kernel
theorem dX11_weed_143 : decode cX11_weed 143 = .ok (.isub, 1) := by decide +kernel
theorem dX11_weed_144 : decode cX11_weed 144 = .ok (.ireturn, 1) := by decide +kernel
theorem dX11_swap_0 : decode cX11_swap 0 = .ok (.iload_n 1, 1) := by decide +kernel
theorem dX11_swap_1 : decode cX11_swap 1 = .ok (.tableswitch 57 0 2 #[27, 37, 47], 27) := by decide +kernel
theorem dX11_swap_28 : decode cX11_swap 28 = .ok (.aload_n 0, 1) := by decide +kernel
theorem dX11_swap_29 : decode cX11_swap 29 = .ok (.getfield 14, 3) := by decide +kernel
theorem dX11_swap_32 : decode cX11_swap 32 = .ok (.invokevirtual 246, 3) := by decide +kernel
theorem dX11_swap_35 : decode cX11_swap 35 = .ok (.goto 26, 3) := by decide +kernel
theorem dX11_swap_38 : decode cX11_swap 38 = .ok (.aload_n 0, 1) := by decide +kernel
theorem dX11_swap_39 : decode cX11_swap 39 = .ok (.getfield 14, 3) := by decide +kernel
theorem dX11_swap_42 : decode cX11_swap 42 = .ok (.invokevirtual 249, 3) := by decide +kernel
theorem dX11_swap_45 : decode cX11_swap 45 = .ok (.goto 16, 3) := by decide +kernel
theorem dX11_swap_48 : decode cX11_swap 48 = .ok (.aload_n 0, 1) := by decide +kernel
theorem dX11_swap_49 : decode cX11_swap 49 = .ok (.getfield 14, 3) := by decide +kernel
theorem dX11_swap_52 : decode cX11_swap 52 = .ok (.invokevirtual 240, 3) := by decide +kernel
theorem dX11_swap_55 : decode cX11_swap 55 = .ok (.goto 6, 3) := by decide +kernel
theorem dX11_swap_58 : decode cX11_swap 58 = .ok (.bipush (-2), 2) := by decide +kernel
theorem dX11_swap_60 : decode cX11_swap 60 = .ok (.ireturn, 1) := by decide +kernel
theorem dX11_swap_61 : decode cX11_swap 61 = .ok (.aload_n 0, 1) := by decide +kernel
theorem dX11_swap_62 : decode cX11_swap 62 = .ok (.getfield 14, 3) := by decide +kernel
theorem dX11_swap_65 : decode cX11_swap 65 = .ok (.getfield 234, 3) := by decide +kernel
theorem dX11_swap_68 : decode cX11_swap 68 = .ok (.ireturn, 1) := by decide +kernel
theorem dX11_factor_0 : decode cX11_factor 0 = .ok (.iload_n 1, 1) := by decide +kernel
theorem dX11_factor_1 : decode cX11_factor 1 = .ok (.ifCond .lt 8, 3) := by decide +kernel
theorem dX11_factor_4 : decode cX11_factor 4 = .ok (.iload_n 1, 1) := by decide +kernel
theorem dX11_factor_5 : decode cX11_factor 5 = .ok (.iconst 3, 1) := by decide +kernel
theorem dX11_factor_6 : decode cX11_factor 6 = .ok (.if_icmp .le 5, 3) := by decide +kernel
theorem dX11_factor_9 : decode cX11_factor 9 = .ok (.iconst (-1), 1) := by decide +kernel
theorem dX11_factor_10 : decode cX11_factor 10 = .ok (.ireturn, 1) := by decide +kernel
theorem dX11_factor_11 : decode cX11_factor 11 = .ok (.iload_n 1, 1) := by decide +kernel
theorem dX11_factor_12 : decode cX11_factor 12 = .ok (.ifCond .eq 8, 3) := by decide +kernel
theorem dX11_factor_15 : decode cX11_factor 15 = .ok (.iload_n 1, 1) := by decide +kernel
theorem dX11_factor_16 : decode cX11_factor 16 = .ok (.iconst 1, 1) := by decide +kernel
theorem dX11_factor_17 : decode cX11_factor 17 = .ok (.if_icmp .ne 7, 3) := by decide +kernel
theorem dX11_factor_20 : decode cX11_factor 20 = .ok (.iconst 1, 1) := by decide +kernel
theorem dX11_factor_21 : decode cX11_factor 21 = .ok (.goto 4, 3) := by decide +kernel
theorem dX11_factor_24 : decode cX11_factor 24 = .ok (.iconst 0, 1) := by decide +kernel
theorem dX11_factor_25 : decode cX11_factor 25 = .ok (.istore 4, 2) := by decide +kernel
theorem dX11_factor_27 : decode cX11_factor 27 = .ok (.iload_n 1, 1) := by decide +kernel
theorem dX11_factor_28 : decode cX11_factor 28 = .ok (.iconst 1, 1) := by decide +kernel
theorem dX11_factor_29 : decode cX11_factor 29 = .ok (.if_icmp .eq 8, 3) := by decide +kernel
theorem dX11_factor_32 : decode cX11_factor 32 = .ok (.iload_n 1, 1) := by decide +kernel
theorem dX11_factor_33 : decode cX11_factor 33 = .ok (.iconst 3, 1) := by decide +kernel
theorem dX11_factor_34 : decode cX11_factor 34 = .ok (.if_icmp .ne 7, 3) := by decide +kernel
theorem dX11_factor_37 : decode cX11_factor 37 = .ok (.iconst 1, 1) := by decide +kernel
theorem dX11_factor_38 : decode cX11_factor 38 = .ok (.goto 4, 3) := by decide +kernel
theorem dX11_factor_41 : decode cX11_factor 41 = .ok (.iconst 0, 1) := by decide +kernel
theorem dX11_factor_42 : decode cX11_factor 42 = .ok (.istore 5, 2) := by decide +kernel
theorem dX11_factor_44 : decode cX11_factor 44 = .ok (.iload 4, 2) := by decide +kernel
theorem dX11_factor_46 : decode cX11_factor 46 = .ok (.ifCond .eq 12, 3) := by decide +kernel
theorem dX11_factor_49 : decode cX11_factor 49 = .ok (.iload_n 2, 1) := by decide +kernel
theorem dX11_factor_50 : decode cX11_factor 50 = .ok (.bipush 20, 2) := by decide +kernel
theorem dX11_factor_52 : decode cX11_factor 52 = .ok (.invokestatic 86, 3) := by decide +kernel
theorem dX11_factor_55 : decode cX11_factor 55 = .ok (.ifCond .eq 17, 3) := by decide +kernel
theorem dX11_factor_58 : decode cX11_factor 58 = .ok (.iload 5, 2) := by decide +kernel
theorem dX11_factor_60 : decode cX11_factor 60 = .ok (.ifCond .eq 15, 3) := by decide +kernel
theorem dX11_factor_63 : decode cX11_factor 63 = .ok (.iload_n 3, 1) := by decide +kernel
theorem dX11_factor_64 : decode cX11_factor 64 = .ok (.bipush 20, 2) := by decide +kernel
theorem dX11_factor_66 : decode cX11_factor 66 = .ok (.invokestatic 86, 3) := by decide +kernel
theorem dX11_factor_69 : decode cX11_factor 69 = .ok (.ifCond .ne 6, 3) := by decide +kernel
theorem dX11_factor_72 : decode cX11_factor 72 = .ok (.bipush (-2), 2) := by decide +kernel
theorem dX11_factor_74 : decode cX11_factor 74 = .ok (.ireturn, 1) := by decide +kernel
theorem dX11_factor_75 : decode cX11_factor 75 = .ok (.aload_n 0, 1) := by decide +kernel
theorem dX11_factor_76 : decode cX11_factor 76 = .ok (.getfield 14, 3) := by decide +kernel
theorem dX11_factor_79 : decode cX11_factor 79 = .ok (.getfield 252, 3) := by decide +kernel
theorem dX11_factor_82 : decode cX11_factor 82 = .ok (.bipush 6, 2) := by decide +kernel
theorem dX11_factor_84 : decode cX11_factor 84 = .ok (.if_icmp .lt 6, 3) := by decide +kernel
theorem dX11_factor_87 : decode cX11_factor 87 = .ok (.bipush (-4), 2) := by decide +kernel
theorem dX11_factor_89 : decode cX11_factor 89 = .ok (.ireturn, 1) := by decide +kernel
theorem dX11_factor_90 : decode cX11_factor 90 = .ok (.aload_n 0, 1) := by decide +kernel
theorem dX11_factor_91 : decode cX11_factor 91 = .ok (.getfield 14, 3) := by decide +kernel
theorem dX11_factor_94 : decode cX11_factor 94 = .ok (.getfield 255, 3) := by decide +kernel
theorem dX11_factor_97 : decode cX11_factor 97 = .ok (.aload_n 0, 1) := by decide +kernel
theorem dX11_factor_98 : decode cX11_factor 98 = .ok (.getfield 14, 3) := by decide +kernel
theorem dX11_factor_101 : decode cX11_factor 101 = .ok (.getfield 252, 3) := by decide +kernel
theorem dX11_factor_104 : decode cX11_factor 104 = .ok (.aaload, 1) := by decide +kernel
theorem dX11_factor_105 : decode cX11_factor 105 = .ok (.iload_n 1, 1) := by decide +kernel
theorem dX11_factor_106 : decode cX11_factor 106 = .ok (.iload 4, 2) := by decide +kernel
theorem dX11_factor_108 : decode cX11_factor 108 = .ok (.ifCond .eq 7, 3) := by decide +kernel
theorem dX11_factor_111 : decode cX11_factor 111 = .ok (.iload_n 2, 1) := by decide +kernel
theorem dX11_factor_112 : decode cX11_factor 112 = .ok (.goto 4, 3) := by decide +kernel
theorem dX11_factor_115 : decode cX11_factor 115 = .ok (.iconst 0, 1) := by decide +kernel
theorem dX11_factor_116 : decode cX11_factor 116 = .ok (.iload 5, 2) := by decide +kernel
theorem dX11_factor_118 : decode cX11_factor 118 = .ok (.ifCond .eq 7, 3) := by decide +kernel
theorem dX11_factor_121 : decode cX11_factor 121 = .ok (.iload_n 3, 1) := by decide +kernel
theorem dX11_factor_122 : decode cX11_factor 122 = .ok (.goto 4, 3) := by decide +kernel
theorem dX11_factor_125 : decode cX11_factor 125 = .ok (.iconst 0, 1) := by decide +kernel
theorem dX11_factor_126 : decode cX11_factor 126 = .ok (.invokevirtual 259, 3) := by decide +kernel
theorem dX11_factor_129 : decode cX11_factor 129 = .ok (.aload_n 0, 1) := by decide +kernel
theorem dX11_factor_130 : decode cX11_factor 130 = .ok (.getfield 14, 3) := by decide +kernel
theorem dX11_factor_133 : decode cX11_factor 133 = .ok (.dup, 1) := by decide +kernel
theorem dX11_factor_134 : decode cX11_factor 134 = .ok (.getfield 252, 3) := by decide +kernel
theorem dX11_factor_137 : decode cX11_factor 137 = .ok (.iconst 1, 1) := by decide +kernel
theorem dX11_factor_138 : decode cX11_factor 138 = .ok (.iadd, 1) := by decide +kernel
theorem dX11_factor_139 : decode cX11_factor 139 = .ok (.putfield 252, 3) := by decide +kernel
theorem dX11_factor_142 : decode cX11_factor 142 = .ok (.aload_n 0, 1) := by decide +kernel
theorem dX11_factor_143 : decode cX11_factor 143 = .ok (.getfield 14, 3) := by decide +kernel
theorem dX11_factor_146 : decode cX11_factor 146 = .ok (.getfield 252, 3) := by decide +kernel
theorem dX11_factor_149 : decode cX11_factor 149 = .ok (.ireturn, 1) := by decide +kernel
theorem dX11_factored_0 : decode cX11_factored 0 = .ok (.iload_n 1, 1) := by decide +kernel
theorem dX11_factored_1 : decode cX11_factored 1 = .ok (.ifCond .lt 24, 3) := by decide +kernel
theorem dX11_factored_4 : decode cX11_factored 4 = .ok (.iload_n 1, 1) := by decide +kernel
theorem dX11_factored_5 : decode cX11_factored 5 = .ok (.aload_n 0, 1) := by decide +kernel
theorem dX11_factored_6 : decode cX11_factored 6 = .ok (.getfield 14, 3) := by decide +kernel
theorem dX11_factored_9 : decode cX11_factored 9 = .ok (.getfield 252, 3) := by decide +kernel
theorem dX11_factored_12 : decode cX11_factored 12 = .ok (.if_icmp .ge 13, 3) := by decide +kernel
theorem dX11_factored_15 : decode cX11_factored 15 = .ok (.iload_n 2, 1) := by decide +kernel
theorem dX11_factored_16 : decode cX11_factored 16 = .ok (.ifCond .lt 9, 3) := by decide +kernel
theorem dX11_factored_19 : decode cX11_factored 19 = .ok (.iload_n 2, 1) := by decide +kernel
theorem dX11_factored_20 : decode cX11_factored 20 = .ok (.bipush 7, 2) := by decide +kernel
theorem dX11_factored_22 : decode cX11_factored 22 = .ok (.if_icmp .le 5, 3) := by decide +kernel
theorem dX11_factored_25 : decode cX11_factored 25 = .ok (.iconst (-1), 1) := by decide +kernel
theorem dX11_factored_26 : decode cX11_factored 26 = .ok (.ireturn, 1) := by decide +kernel
theorem dX11_factored_27 : decode cX11_factored 27 = .ok (.aload_n 0, 1) := by decide +kernel
theorem dX11_factored_28 : decode cX11_factored 28 = .ok (.getfield 14, 3) := by decide +kernel
theorem dX11_factored_31 : decode cX11_factored 31 = .ok (.getfield 255, 3) := by decide +kernel
theorem dX11_factored_34 : decode cX11_factored 34 = .ok (.iload_n 1, 1) := by decide +kernel
theorem dX11_factored_35 : decode cX11_factored 35 = .ok (.aaload, 1) := by decide +kernel
theorem dX11_factored_36 : decode cX11_factored 36 = .ok (.astore_n 3, 1) := by decide +kernel
theorem dX11_factored_37 : decode cX11_factored 37 = .ok (.iload_n 2, 1) := by decide +kernel
theorem dX11_factored_38 : decode cX11_factored 38 = .ok (.tableswitch 95 0 6 #[42, 47, 55, 75, 80, 85, 90], 42) := by decide +kernel
theorem dX11_factored_80 : decode cX11_factored 80 = .ok (.aload_n 3, 1) := by decide +kernel
theorem dX11_factored_81 : decode cX11_factored 81 = .ok (.getfield 265, 3) := by decide +kernel
theorem dX11_factored_84 : decode cX11_factored 84 = .ok (.ireturn, 1) := by decide +kernel
theorem dX11_factored_85 : decode cX11_factored 85 = .ok (.aload_n 3, 1) := by decide +kernel
theorem dX11_factored_86 : decode cX11_factored 86 = .ok (.getfield 268, 3) := by decide +kernel
theorem dX11_factored_89 : decode cX11_factored 89 = .ok (.bipush 100, 2) := by decide +kernel
theorem dX11_factored_91 : decode cX11_factored 91 = .ok (.iadd, 1) := by decide +kernel
theorem dX11_factored_92 : decode cX11_factored 92 = .ok (.ireturn, 1) := by decide +kernel
theorem dX11_factored_93 : decode cX11_factored 93 = .ok (.aload_n 3, 1) := by decide +kernel
theorem dX11_factored_94 : decode cX11_factored 94 = .ok (.invokevirtual 271, 3) := by decide +kernel
theorem dX11_factored_97 : decode cX11_factored 97 = .ok (.iconst 1, 1) := by decide +kernel
theorem dX11_factored_98 : decode cX11_factored 98 = .ok (.if_icmp .ne 7, 3) := by decide +kernel
theorem dX11_factored_101 : decode cX11_factored 101 = .ok (.iconst (-1), 1) := by decide +kernel
theorem dX11_factored_102 : decode cX11_factored 102 = .ok (.goto 10, 3) := by decide +kernel
theorem dX11_factored_105 : decode cX11_factored 105 = .ok (.aload_n 3, 1) := by decide +kernel
theorem dX11_factored_106 : decode cX11_factored 106 = .ok (.getfield 273, 3) := by decide +kernel
theorem dX11_factored_109 : decode cX11_factored 109 = .ok (.bipush 100, 2) := by decide +kernel
theorem dX11_factored_111 : decode cX11_factored 111 = .ok (.iadd, 1) := by decide +kernel
theorem dX11_factored_112 : decode cX11_factored 112 = .ok (.ireturn, 1) := by decide +kernel
theorem dX11_factored_113 : decode cX11_factored 113 = .ok (.aload_n 3, 1) := by decide +kernel
theorem dX11_factored_114 : decode cX11_factored 114 = .ok (.invokevirtual 271, 3) := by decide +kernel
theorem dX11_factored_117 : decode cX11_factored 117 = .ok (.ireturn, 1) := by decide +kernel
theorem dX11_factored_118 : decode cX11_factored 118 = .ok (.aload_n 3, 1) := by decide +kernel
theorem dX11_factored_119 : decode cX11_factored 119 = .ok (.invokevirtual 276, 3) := by decide +kernel
theorem dX11_factored_122 : decode cX11_factored 122 = .ok (.ireturn, 1) := by decide +kernel
theorem dX11_factored_123 : decode cX11_factored 123 = .ok (.aload_n 3, 1) := by decide +kernel
theorem dX11_factored_124 : decode cX11_factored 124 = .ok (.invokevirtual 277, 3) := by decide +kernel
theorem dX11_factored_127 : decode cX11_factored 127 = .ok (.ireturn, 1) := by decide +kernel
theorem dX11_factored_128 : decode cX11_factored 128 = .ok (.aload_n 3, 1) := by decide +kernel
theorem dX11_factored_129 : decode cX11_factored 129 = .ok (.invokevirtual 278, 3) := by decide +kernel
theorem dX11_factored_132 : decode cX11_factored 132 = .ok (.ireturn, 1) := by decide +kernel
theorem dX11_factored_133 : decode cX11_factored 133 = .ok (.aload_n 3, 1) := by decide +kernel
theorem dX11_factored_134 : decode cX11_factored 134 = .ok (.aload_n 0, 1) := by decide +kernel
theorem dX11_factored_135 : decode cX11_factored 135 = .ok (.invokevirtual 98, 3) := by decide +kernel
theorem dX11_factored_138 : decode cX11_factored 138 = .ok (.invokevirtual 279, 3) := by decide +kernel
theorem dX11_factored_141 : decode cX11_factored 141 = .ok (.ireturn, 1) := by decide +kernel
theorem dX11_unfactor_0 : decode cX11_unfactor 0 = .ok (.iload_n 1, 1) := by decide +kernel
theorem dX11_unfactor_1 : decode cX11_unfactor 1 = .ok (.ifCond .lt 14, 3) := by decide +kernel
theorem dX11_unfactor_4 : decode cX11_unfactor 4 = .ok (.iload_n 1, 1) := by decide +kernel
theorem dX11_unfactor_5 : decode cX11_unfactor 5 = .ok (.aload_n 0, 1) := by decide +kernel
theorem dX11_unfactor_6 : decode cX11_unfactor 6 = .ok (.getfield 14, 3) := by decide +kernel
theorem dX11_unfactor_9 : decode cX11_unfactor 9 = .ok (.getfield 252, 3) := by decide +kernel
theorem dX11_unfactor_12 : decode cX11_unfactor 12 = .ok (.if_icmp .lt 5, 3) := by decide +kernel
theorem dX11_unfactor_15 : decode cX11_unfactor 15 = .ok (.iconst (-1), 1) := by decide +kernel
theorem dX11_unfactor_16 : decode cX11_unfactor 16 = .ok (.ireturn, 1) := by decide +kernel
theorem dX11_unfactor_17 : decode cX11_unfactor 17 = .ok (.aload_n 0, 1) := by decide +kernel
theorem dX11_unfactor_18 : decode cX11_unfactor 18 = .ok (.getfield 14, 3) := by decide +kernel
theorem dX11_unfactor_21 : decode cX11_unfactor 21 = .ok (.iload_n 1, 1) := by decide +kernel
theorem dX11_unfactor_22 : decode cX11_unfactor 22 = .ok (.invokevirtual 282, 3) := by decide +kernel
theorem dX11_unfactor_25 : decode cX11_unfactor 25 = .ok (.aload_n 0, 1) := by decide +kernel
theorem dX11_unfactor_26 : decode cX11_unfactor 26 = .ok (.getfield 14, 3) := by decide +kernel
theorem dX11_unfactor_29 : decode cX11_unfactor 29 = .ok (.getfield 252, 3) := by decide +kernel
